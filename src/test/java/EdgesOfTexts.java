import java.util.List;

/** Sentences of promises 10 to 13: append, clearBuffer, firstError, load. */
final class EdgesOfTexts {
    private static final Class<?> ARGUMENT = IllegalArgumentException.class;

    /** Fourteen pairs in 57 characters: the most that the buffer can hold. */
    private static final String LONGEST = "0:a>b" + ",b<c".repeat(13);

    private EdgesOfTexts() { }

    static void run(Check check) {
        append(check);
        appendRefused(check);
        clearBuffer(check);
        grammar(check);
        signs(check);
        firstError(check);
        load(check);
        loadRefused(check);
    }

    private static void dueError(Check check, ListeningTrials x, String text, int want) {
        x.clearBuffer();
        Check.append(x, text);
        check.due("firstError of '" + text + "'", x.firstError(), want);
    }

    /** Every part of the text is free of errors, but no part in front of it is complete. */
    private static void dueWhole(Check check, ListeningTrials x, String text, int pairs) {
        for (int k = 0; k <= text.length(); k++) {
            dueError(check, x, text.substring(0, k), k);
        }
        check.due("load of '" + text + "'", x.load(), pairs);
    }

    /** Of all characters that the buffer can hold, these alone may follow. */
    private static void dueTakes(Check check, ListeningTrials x, String before, String... taken) {
        List<String> allowed = List.of(taken);
        for (char code = 33; code <= 126; code++) {
            String next = String.valueOf(code);
            int length = before.length();
            dueError(check, x, before + next, allowed.contains(next) ? length + 1 : length);
        }
    }

    private static void dueUnfinished(Check check, ListeningTrials x, String text) {
        dueError(check, x, text, text.length());
        check.dueArgument(x, "load of '" + text + "'", () -> x.load());
    }

    private static void append(Check check) {
        check.edge(10, "Appends a character to the buffer.", x -> {
            x.append('0');
            x.append(':');
            x.append('b');
            x.append('<');
            x.append('a');
            check.due("load", x.load(), 1);
            check.dueRow("what was read", Check.comparisonOf(x, 0), 0, 1, 0, 2);
        });
        check.edge(10, "`code`: the character code, 33 to 126", x -> {
            for (int code = 33; code <= 126; code++) {
                x.clearBuffer();
                check.due("append(" + code + ")", x.append(code), 1);
            }
        });
        check.edge(10, "Returns the new length of the buffer.", x -> {
            for (int length = 1; length <= 60; length++) {
                check.due("append", x.append(33), length);
            }
            x.clearBuffer();
            check.due("behind clearBuffer", x.append(126), 1);
        });
        check.edge(10, "The buffer has at most 60 characters.", x -> {
            Check.append(x, "z".repeat(59));
            check.due("the 60th", x.append('z'), 60);
            check.dueState(x, "a 61st", () -> x.append('z'));
            check.due("its length", x.clearBuffer(), 60);
        });
    }

    private static void appendRefused(Check check) {
        check.edge(10, "Throws `IllegalArgumentException` if code is not 33 to 126", x -> {
            check.dueBeyond(x, "append", ARGUMENT, 33, 126, n -> x.append(n));
            check.dueArgument(x, "append(0)", () -> x.append(0));
            check.dueArgument(x, "append(-1)", () -> x.append(-1));
            check.dueArgument(x, "append(65536 + 48)", () -> x.append(65536 + 48));
            check.due("its length", x.clearBuffer(), 0);
        });
        check.edge(10, "Throws `IllegalStateException` if the buffer has 60 characters", x -> {
            Check.append(x, "0".repeat(60));
            check.dueState(x, "append(33)", () -> x.append(33));
            check.dueState(x, "append(126)", () -> x.append(126));
            x.clearBuffer();
            check.due("behind clearBuffer", x.append(33), 1);
        });
    }

    private static void clearBuffer(Check check) {
        check.edge(11, "Clears the buffer.", x -> {
            long empty = x.digest();
            Check.append(x, "0:a>b");
            x.clearBuffer();
            check.due("as if nothing had been there", x.digest(), empty);
            check.dueArgument(x, "load", () -> x.load());
            Check.append(x, "1:");
            check.due("nothing of the old text", x.firstError(), 2);
        });
        check.edge(11, "Returns the length that it had.", x -> {
            check.due("nothing", x.clearBuffer(), 0);
            x.append('!');
            check.due("one", x.clearBuffer(), 1);
            check.due("nothing again", x.clearBuffer(), 0);
            Check.append(x, "!".repeat(60));
            check.due("the most", x.clearBuffer(), 60);
        });
    }

    private static void grammar(Check check) {
        check.edge(13, "The text of comparisons is", x -> {
            dueUnfinished(check, x, "");
            dueWhole(check, x, "0:a>b,b<c;1:c=a", 3);
        });
        check.edge(12, "text  = group { \";\" group }", x -> {
            dueWhole(check, x, "0:a>b", 1);
            dueWhole(check, x, "0:a>b;1:a>b;0:b>a;0:b>a", 4);
            dueError(check, x, ";", 0);
            dueError(check, x, "0:a>b;;", 6);
            dueUnfinished(check, x, "0:a>b;");
            dueError(check, x, "0:a>b;b", 6);
            dueError(check, x, "0:a>b0", 5);
        });
        check.edge(12, "group = listener \":\" pair { \",\" pair }", x -> {
            dueWhole(check, x, "1:a>b,b>c,c>a", 3);
            dueUnfinished(check, x, "1");
            dueUnfinished(check, x, "1:");
            dueUnfinished(check, x, "1:a>b,");
            dueError(check, x, ":", 0);
            dueError(check, x, "1;", 1);
            dueError(check, x, "1,", 1);
            dueError(check, x, "11", 1);
            dueError(check, x, "1a", 1);
            dueError(check, x, "1::", 2);
            dueError(check, x, "1:,", 2);
            dueError(check, x, "1:;", 2);
            dueError(check, x, "1:1", 2);
            dueError(check, x, "1:a>b,,", 6);
            dueError(check, x, "1:a>b,;", 6);
            dueError(check, x, "1:a>b,1", 6);
            dueError(check, x, "1:a>b:", 5);
        });
        check.edge(12, "pair  = sample sign sample", x -> {
            dueUnfinished(check, x, "0:a");
            dueUnfinished(check, x, "0:a>");
            dueWhole(check, x, "0:a>b", 1);
            dueError(check, x, "0:>", 2);
            dueError(check, x, "0:ab", 3);
            dueError(check, x, "0:a,", 3);
            dueError(check, x, "0:a>>", 4);
            dueError(check, x, "0:a>,", 4);
            dueError(check, x, "0:a>bc", 5);
            dueError(check, x, "0:a>b>", 5);
        });
    }

    private static void signs(Check check) {
        String sentence = "where a listener is the digit of an existing listener, a sample is the "
                + "letter of an existing sample, both samples of a pair are different, and sign is "
                + "\">\" (the first one was preferred), \"<\" (the second one was preferred) or "
                + "\"=\" (a tie).";
        check.edge(12, sentence, x -> {
            for (int listeners = 1; listeners <= 8; listeners++) {
                x.begin(2, listeners);
                dueWhole(check, x, listeners - 1 + ":a>b", 1);
                dueError(check, x, listeners + ":a>b", 0);
                dueError(check, x, "0:a>b;" + listeners, 6);
                dueError(check, x, "/", 0);
                dueError(check, x, "9", 0);
            }
        });
        check.edge(12, sentence, x -> {
            for (int samples = 2; samples <= 8; samples++) {
                x.begin(samples, 1);
                char last = (char) ('a' + samples - 1);
                char beyond = (char) ('a' + samples);
                dueWhole(check, x, "0:" + last + "=a,a=" + last, 2);
                dueError(check, x, "0:" + beyond, 2);
                dueError(check, x, "0:a=" + beyond, 4);
                dueError(check, x, "0:`", 2);
                dueError(check, x, "0:a=`", 4);
                dueError(check, x, "0:A", 2);
                for (char same = 'a'; same <= last; same++) {
                    dueError(check, x, "0:" + same + "<" + same, 4);
                }
            }
        });
        check.edge(12, sentence, x -> {
            for (int code = 33; code <= 126; code++) {
                boolean sign = code == '<' || code == '=' || code == '>';
                dueError(check, x, "0:a" + (char) code + "b", sign ? 5 : 3);
            }
        });
        check.edge(12, sentence, x -> {
            dueTakes(check, x, "", "0", "1");
            dueTakes(check, x, "0:a>b;", "0", "1");
            dueTakes(check, x, "0", ":");
            dueTakes(check, x, "0:", "a", "b", "c");
            dueTakes(check, x, "0:b=c,", "a", "b", "c");
            dueTakes(check, x, "0:a", "<", "=", ">");
            dueTakes(check, x, "0:a<", "b", "c");
            dueTakes(check, x, "0:b=", "a", "c");
            dueTakes(check, x, "0:a>b,c>", "a", "b");
            dueTakes(check, x, "0:a>b", ",", ";");
        });
        check.edge(13, sentence, x -> {
            Check.load(x, "1:c>a,c<a,c=a");
            check.due("the first one", x.comparison(0, 3), 1);
            check.due("the second one", x.comparison(1, 3), 2);
            check.due("a tie", x.comparison(2, 3), 0);
        });
        check.edge(13, "The first sample of a pair was played first.", x -> {
            Check.load(x, "0:c<a,a<c");
            check.dueRow("c, then a", Check.comparisonOf(x, 0), 0, 2, 0, 2);
            check.dueRow("a, then c", Check.comparisonOf(x, 1), 0, 0, 2, 2);
        });
    }

    private static void firstError(Check check) {
        check.edge(12, "The buffer is read from left to right; a character is a syntax error if no "
                + "text begins with the characters before it and this character.", x -> {
            dueError(check, x, "x?!", 0);
            dueError(check, x, "0:a>b!!", 5);
            dueError(check, x, "0:a>a;9", 4);
            dueError(check, x, LONGEST + ",a<", 60);
            dueError(check, x, LONGEST + ";1:", 60);
            dueError(check, x, LONGEST + ",a!", 59);
        });
        check.edge(12, "Finds the first syntax error of the buffer.", x -> {
            dueError(check, x, "0:a>b,c?a,?", 7);
            check.due("again", x.firstError(), 7);
            check.due("the buffer stays", x.clearBuffer(), 11);
        });
        check.edge(12, "Returns the index of the first character that is a syntax error; the length "
                + "of the buffer if there is none.", x -> {
            check.due("of an empty buffer", x.firstError(), 0);
            dueError(check, x, "!", 0);
            dueError(check, x, "0", 1);
            dueError(check, x, "0:a>b", 5);
            dueError(check, x, "~".repeat(60), 0);
            dueError(check, x, LONGEST + ";0~", 59);
            dueError(check, x, LONGEST + ";0:", 60);
        });
    }

    private static void load(Check check) {
        check.edge(13, "Adds the comparisons of the text in the buffer, in order, and clears the "
                + "buffer.", x -> {
            x.compare(0, 2, 1, 0);
            Check.load(x, "1:a>b,c<b;0:c=a");
            check.dueRow("what was there", Check.comparisonOf(x, 0), 0, 2, 1, 0);
            check.dueRow("the first pair", Check.comparisonOf(x, 1), 1, 0, 1, 1);
            check.dueRow("the second pair", Check.comparisonOf(x, 2), 1, 2, 1, 2);
            check.dueRow("the last pair", Check.comparisonOf(x, 3), 0, 2, 0, 0);
            check.due("the buffer", x.clearBuffer(), 0);
        });
        check.edge(13, "This is a step.", x -> {
            Check.load(x, LONGEST);
            check.due("one step for fourteen", x.count(6), 1);
            check.due("undo", x.undo(), 0);
            check.due("the buffer does not come back", x.clearBuffer(), 0);
        });
        check.edge(13, "Returns how many comparisons were added.", x -> {
            check.due("the least", Check.load(x, "0:a>b"), 1);
            check.due("the most", Check.load(x, LONGEST), 14);
            check.due("all of them", x.count(2), 15);
        });
    }

    private static void loadRefused(Check check) {
        check.edge(13, "Throws `IllegalArgumentException` if the buffer is not a complete text",
                x -> {
            dueUnfinished(check, x, "");
            String text = "1:a>b,b=c;0:c<a";
            for (int k = 1; k < text.length(); k++) {
                if (k != 5 && k != 9) {
                    dueUnfinished(check, x, text.substring(0, k));
                }
            }
            x.clearBuffer();
            Check.append(x, text + "!");
            check.dueArgument(x, "an error at the end", () -> x.load());
            x.clearBuffer();
            Check.append(x, LONGEST + ";0:");
            check.dueArgument(x, "60 characters, not complete", () -> x.load());
            check.due("the buffer stays", x.clearBuffer(), 60);
            check.due("nothing is added", x.count(2), 0);
        });
        check.edge(13, "Throws `IllegalArgumentException` if the buffer is not a complete text",
                x -> {
            Check.append(x, "0:a>b;1:a>b");
            x.begin(3, 1);
            check.dueArgument(x, "a listener who is gone", () -> x.load());
            x.begin(3, 2);
            check.due("a listener who is there again", x.load(), 2);
        });
        check.edge(13, "Throws `IllegalStateException` if there would be more than 48 comparisons",
                x -> {
            Check.repeat(x, 46, 0, 1, 1);
            Check.append(x, "0:a>b,b>c,c>a");
            check.dueState(x, "46 and 3", () -> x.load());
            check.due("the buffer stays", x.firstError(), 13);
            x.remove(0);
            check.due("45 and 3", x.load(), 3);
            check.due("comparisons", x.count(2), 48);
            Check.append(x, "0:a>b");
            check.dueState(x, "48 and 1", () -> x.load());
        });
        check.edge(13, "Throws `IllegalStateException` if there would be more than 48 comparisons",
                x -> {
            Check.repeat(x, 34, 0, 1, 1);
            check.due("34 and 14", Check.load(x, LONGEST), 14);
            x.undo();
            x.compare(0, 0, 1, 1);
            Check.append(x, LONGEST);
            check.dueState(x, "35 and 14", () -> x.load());
        });
    }
}
