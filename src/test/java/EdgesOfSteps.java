/** Sentences of promises 7 to 9: compare, remove, undo. */
final class EdgesOfSteps {
    private static final Class<?> INDEX = IndexOutOfBoundsException.class;
    private static final Class<?> ARGUMENT = IllegalArgumentException.class;

    private EdgesOfSteps() { }

    static void run(Check check) {
        comparisons(check);
        compare(check);
        compareRefused(check);
        remove(check);
        removeRefused(check);
        whatIsAStep(check);
        twelveSteps(check);
        latestFirst(check);
        undo(check);
        undoOfPlans(check);
        undoRefused(check);
    }

    private static void comparisons(Check check) {
        check.edge(7, "A comparison consists of a listener, the sample that was played first, "
                + "another sample that was played second, and an answer: 0 if neither was preferred "
                + "(a tie), 1 if the first one was preferred, 2 if the second one was preferred.",
                x -> {
            x.compare(0, 2, 1, 0);
            check.due("a tie", x.result(2, 1, 1), 1);
            check.due("no win", x.result(2, 1, 0) + x.result(1, 2, 0), 0);
            x.compare(0, 2, 1, 1);
            check.due("the first one", x.result(2, 1, 0), 1);
            x.compare(0, 2, 1, 2);
            check.due("the second one", x.result(1, 2, 0), 1);
            check.dueArgument(x, "no other sample", () -> x.compare(0, 2, 2, 0));
        });
        check.edge(7, "The comparisons are numbered from 0 in the order in which they were added; "
                + "there are at most 48.", x -> {
            x.begin(8, 8);
            for (int k = 0; k < 48; k++) {
                check.due("compare", x.compare(k % 8, k % 8, (k + 1) % 8, k % 3), k);
            }
            for (int k = 0; k < 48; k++) {
                check.dueRow("comparison " + k, Check.comparisonOf(x, k),
                        k % 8, k % 8, (k + 1) % 8, k % 3);
            }
            check.dueState(x, "a 49th", () -> x.compare(0, 0, 1, 1));
            check.due("comparisons", x.count(2), 48);
        });
    }

    private static void compare(Check check) {
        check.edge(7, "Adds a comparison.", x -> {
            x.compare(1, 2, 0, 2);
            check.due("comparisons", x.count(2), 1);
            check.dueRow("the first one", Check.comparisonOf(x, 0), 1, 2, 0, 2);
            Check.repeat(x, 46, 0, 1, 0);
            x.compare(0, 1, 2, 1);
            check.due("comparisons", x.count(2), 48);
            check.dueRow("the last one", Check.comparisonOf(x, 47), 0, 1, 2, 1);
        });
        check.edge(7, "This is a step.", x -> {
            x.compare(0, 0, 1, 1);
            check.due("steps", x.count(6), 1);
            check.due("undo", x.undo(), 0);
        });
        check.edge(7, "`listener`: number of the listener", x -> {
            x.begin(2, 8);
            check.dueTaken("compare", 0, 7, n -> x.compare(n, 0, 1, 1));
            check.due("the first one", x.comparison(0, 0), 0);
            check.due("the last one", x.comparison(7, 0), 7);
        });
        check.edge(7, "`first`: the sample that was played first", x -> {
            x.begin(8, 1);
            check.dueTaken("compare", 0, 6, n -> x.compare(0, n, 7, 1));
            x.compare(0, 7, 0, 1);
            check.due("the first one", x.comparison(0, 1), 0);
            check.due("the last one", x.comparison(7, 1), 7);
        });
        check.edge(7, "`second`: the sample that was played second", x -> {
            x.begin(8, 1);
            check.dueTaken("compare", 1, 7, n -> x.compare(0, 0, n, 1));
            x.compare(0, 7, 0, 1);
            check.due("the last one", x.comparison(6, 2), 7);
            check.due("the first one", x.comparison(7, 2), 0);
        });
        check.edge(7, "`answer`: 0 to 2", x -> {
            check.dueTaken("compare", 0, 2, n -> x.compare(0, 0, 1, n));
            for (int k = 0; k < 3; k++) {
                check.due("answer " + k, x.comparison(k, 3), k);
            }
        });
        check.edge(7, "Returns the number of the comparison.", x -> {
            for (int k = 0; k < 48; k++) {
                check.due("compare", x.compare(0, 0, 1, 1), k);
            }
            x.remove(0);
            check.due("compare behind remove", x.compare(0, 0, 1, 1), 47);
        });
    }

    private static void compareRefused(Check check) {
        check.edge(7, "Throws `IndexOutOfBoundsException` if the listener or a sample does not "
                + "exist", x -> {
            check.dueBeyond(x, "listener", INDEX, 0, 1, n -> x.compare(n, 0, 1, 1));
            check.dueBeyond(x, "first", INDEX, 0, 2, n -> x.compare(0, n, 1, 1));
            check.dueBeyond(x, "second", INDEX, 0, 2, n -> x.compare(0, 0, n, 1));
            x.begin(8, 8);
            check.dueBeyond(x, "listener of 8", INDEX, 0, 7, n -> x.compare(n, 0, 1, 1));
            check.dueBeyond(x, "first of 8", INDEX, 0, 7, n -> x.compare(0, n, 1, 1));
            check.dueBeyond(x, "second of 8", INDEX, 0, 7, n -> x.compare(0, 0, n, 1));
            x.begin(2, 1);
            check.dueBeyond(x, "listener of 1", INDEX, 0, 0, n -> x.compare(n, 0, 1, 1));
            check.dueBeyond(x, "first of 2", INDEX, 0, 1, n -> x.compare(0, n, 1, 1));
            check.dueBeyond(x, "second of 2", INDEX, 0, 1, n -> x.compare(0, 0, n, 1));
            check.due("comparisons", x.count(2), 0);
        });
        String sentence = "Throws `IllegalArgumentException` if both samples are the same, or "
                + "answer is not 0 to 2";
        check.edge(7, sentence, x -> {
            x.begin(8, 1);
            for (int i = 0; i < 8; i++) {
                int same = i;
                check.dueArgument(x, "twice " + i, () -> x.compare(0, same, same, 1));
            }
            check.due("comparisons", x.count(2), 0);
        });
        check.edge(7, sentence, x -> {
            check.dueBeyond(x, "answer", ARGUMENT, 0, 2, n -> x.compare(0, 0, 1, n));
            check.due("comparisons", x.count(2), 0);
        });
        check.edge(7, "Throws `IllegalStateException` if there are 48 comparisons", x -> {
            Check.repeat(x, 47, 0, 1, 1);
            check.due("the 48th", x.compare(0, 0, 1, 2), 47);
            check.dueState(x, "a 49th", () -> x.compare(0, 0, 1, 2));
            x.undo();
            check.due("the 48th again", x.compare(0, 0, 1, 2), 47);
        });
    }

    private static void remove(Check check) {
        String sentence = "Removes a comparison; the numbers of those behind it decrease by 1.";
        check.edge(8, sentence, x -> {
            Check.load(x, "0:a>b,b>c,c>a,a=c");
            x.remove(0);
            check.dueRow("behind the first one", Check.comparisonOf(x, 0), 0, 1, 2, 1);
            check.dueRow("the last one", Check.comparisonOf(x, 2), 0, 0, 2, 0);
            x.remove(2);
            check.dueRow("the last one is gone", Check.comparisonOf(x, 1), 0, 2, 0, 1);
            check.dueIndex(x, "its number", () -> x.comparison(2, 0));
            check.dueRow("before it all stays", Check.comparisonOf(x, 0), 0, 1, 2, 1);
        });
        check.edge(8, sentence, x -> {
            ListeningTrials full = Check.full();
            int[] last = Check.comparisonOf(full, 47);
            int[] next = Check.comparisonOf(full, 24);
            int[] before = Check.comparisonOf(full, 22);
            check.due("of 48", full.remove(23), 47);
            check.dueRow("before it", Check.comparisonOf(full, 22), before);
            check.dueRow("in its place", Check.comparisonOf(full, 23), next);
            check.dueRow("the last one", Check.comparisonOf(full, 46), last);
            check.dueIndex(full, "the 48th", () -> full.comparison(47, 0));
        });
        check.edge(8, "This is a step.", x -> {
            x.compare(1, 2, 0, 1);
            x.remove(0);
            check.due("steps", x.count(6), 2);
            check.due("undo", x.undo(), 1);
            check.dueRow("it is back", Check.comparisonOf(x, 0), 1, 2, 0, 1);
        });
        check.edge(8, "Returns how many comparisons are left.", x -> {
            Check.repeat(x, 48, 0, 1, 1);
            for (int left = 47; left >= 0; left--) {
                check.due("remove", x.remove(left / 2), left);
            }
        });
    }

    private static void removeRefused(Check check) {
        check.edge(8, "`comparison`: number of the comparison", x -> {
            Check.repeat(x, 48, 0, 1, 1);
            check.due("the last one", x.remove(47), 47);
            check.due("the first one", x.remove(0), 46);
        });
        check.edge(8, "Throws `IndexOutOfBoundsException` if the comparison does not exist", x -> {
            check.dueBeyond(x, "of none", INDEX, 0, -1, n -> x.remove(n));
            x.compare(0, 0, 1, 1);
            check.dueBeyond(x, "of one", INDEX, 0, 0, n -> x.remove(n));
            Check.repeat(x, 47, 0, 1, 1);
            check.dueBeyond(x, "of 48", INDEX, 0, 47, n -> x.remove(n));
            check.due("comparisons", x.count(2), 48);
        });
    }

    private static void whatIsAStep(Check check) {
        String sentence = "Each call of compare, answer, load and remove that throws no exception is "
                + "a step.";
        check.edge(9, sentence, x -> {
            x.compare(0, 0, 1, 1);
            check.due("compare", x.count(6), 1);
            x.plan(0, 1, 1);
            x.answer(1);
            check.due("answer", x.count(6), 2);
            Check.load(x, "0:a>b,b>c,c>a");
            check.due("load of three", x.count(6), 3);
            x.remove(0);
            check.due("remove", x.count(6), 4);
        });
        check.edge(9, sentence, x -> {
            x.compare(0, 0, 1, 1);
            check.dueArgument(x, "compare", () -> x.compare(0, 0, 0, 1));
            check.dueState(x, "answer", () -> x.answer(1));
            check.dueArgument(x, "load", () -> x.load());
            check.dueIndex(x, "remove", () -> x.remove(1));
            check.due("calls that throw", x.count(6), 1);
            x.setWeight(0, 2);
            x.plan(0, 1, 1);
            x.append('0');
            x.firstError();
            x.clearBuffer();
            x.trial(0, false);
            x.sample(0, 2);
            x.summary(0);
            x.without(0, 0, 2);
            x.strength(0, 60);
            x.digest();
            check.due("other calls", x.count(6), 1);
            x.undo();
            check.due("undo", x.count(6), 0);
        });
    }

    private static void twelveSteps(Check check) {
        String sentence = "At most 12 steps are kept; when a further one comes, the oldest one is "
                + "forgotten.";
        check.edge(9, sentence, x -> {
            Check.repeat(x, 12, 0, 1, 1);
            check.due("twelve", x.count(6), 12);
            for (int left = 11; left >= 0; left--) {
                check.due("undo", x.undo(), left);
            }
            check.dueState(x, "a 13th undo", () -> x.undo());
        });
        check.edge(9, sentence, x -> {
            Check.repeat(x, 13, 0, 1, 1);
            check.due("thirteen", x.count(6), 12);
            for (int left = 12; left >= 1; left--) {
                check.due("undo", x.undo(), left);
            }
            check.dueState(x, "undo of the forgotten one", () -> x.undo());
        });
        check.edge(9, sentence, x -> {
            Check.repeat(x, 48, 0, 1, 1);
            check.due("48", x.count(6), 12);
            for (int k = 0; k < 5; k++) {
                x.undo();
            }
            check.due("five undone", x.count(6), 7);
            Check.repeat(x, 5, 1, 2, 2);
            check.due("five more", x.count(6), 12);
            x.remove(0);
            check.due("and one more", x.count(6), 12);
            int[] sizes = {48, 47, 46, 45, 44, 43, 42, 41, 40, 39, 38, 37};
            for (int size : sizes) {
                check.due("undo", x.undo(), size);
            }
            check.dueState(x, "undo of a forgotten one", () -> x.undo());
        });
    }

    private static void latestFirst(Check check) {
        check.edge(9, "Only steps that are kept can be undone, the latest one first.", x -> {
            x.compare(0, 0, 1, 1);
            x.compare(1, 1, 2, 2);
            x.remove(0);
            check.due("undo", x.undo(), 2);
            check.dueRow("remove is undone", Check.comparisonOf(x, 0), 0, 0, 1, 1);
            check.due("undo", x.undo(), 1);
            check.dueRow("the first one is left", Check.comparisonOf(x, 0), 0, 0, 1, 1);
            check.due("undo", x.undo(), 0);
            check.dueState(x, "undo", () -> x.undo());
            x.compare(1, 2, 0, 0);
            check.due("a step behind undo", x.count(6), 1);
            check.due("undo", x.undo(), 0);
        });
        check.edge(9, "Undoes the latest step.", x -> {
            long before = x.digest();
            Check.load(x, "0:a>b;1:b>c");
            check.due("undo of load", x.undo(), 0);
            check.due("all is as before", x.digest(), before);
            ListeningTrials full = Check.full();
            int[] last = Check.comparisonOf(full, 46);
            check.due("undo of a full one", full.undo(), 47);
            check.dueRow("the last one", Check.comparisonOf(full, 46), last);
            check.due("trials left", full.count(5), 53);
            check.due("steps", full.count(6), 11);
            check.due("the buffer stays", full.clearBuffer(), 60);
        });
    }

    private static void undo(Check check) {
        check.edge(9, "To undo a step makes the comparisons, the plan and its current trial as they "
                + "were before it.", x -> {
            x.setWeight(1, 3);
            x.plan(1, 2, 8);
            long[] digests = new long[12];
            int[] sizes = new int[12];
            for (int k = 0; k < 12; k++) {
                digests[k] = x.digest();
                sizes[k] = x.count(2);
                takeStep(x, k);
            }
            for (int k = 11; k >= 0; k--) {
                check.due("comparisons before step " + k, x.undo(), sizes[k]);
                check.due("digest before step " + k, x.digest(), digests[k]);
            }
        });
        check.edge(9, "Returns how many comparisons there are afterwards.", x -> {
            Check.repeat(x, 48, 0, 1, 1);
            x.remove(20);
            check.due("the most", x.undo(), 48);
            check.due("less", x.undo(), 47);
            x.begin(3, 2);
            x.compare(0, 0, 1, 1);
            check.due("none", x.undo(), 0);
        });
    }

    private static void takeStep(ListeningTrials x, int k) {
        switch (k % 4) {
            case 0 -> x.answer(k % 3);
            case 1 -> x.compare(k % 2, k % 3, (k + 1) % 3, 2);
            case 2 -> Check.load(x, "0:c<a,b=a;1:a>c");
            default -> x.remove(k / 2);
        }
    }

    private static void undoOfPlans(Check check) {
        String sentence = "To undo a step makes the comparisons, the plan and its current trial as "
                + "they were before it.";
        check.edge(9, sentence, x -> {
            x.compare(0, 0, 1, 1);
            x.plan(0, 2, 1);
            x.undo();
            check.due("there was no plan", x.count(7), -1);
            check.due("nor a trial", x.count(5), 0);
        });
        check.edge(9, sentence, x -> {
            x.plan(1, 2, 4);
            int[] trials = Check.trialsOf(x, 6);
            x.answer(1);
            x.answer(2);
            x.plan(0, 1, 9);
            x.answer(0);
            x.undo();
            check.due("the newer plan, not begun", x.count(5), 3);
            check.due("its listener", x.count(7), 0);
            x.undo();
            check.due("the older plan, one answered", x.count(5), 5);
            check.due("its listener", x.count(7), 1);
            check.dueRow("its trials", Check.trialsOf(x, 6), trials);
            x.undo();
            check.due("the older plan, not begun", x.count(5), 6);
        });
        check.edge(9, sentence, x -> {
            x.begin(2, 1);
            x.plan(0, 1, 3);
            x.answer(1);
            check.dueState(x, "no trial is left", () -> x.answer(1));
            x.undo();
            check.due("it can be answered again", x.answer(2), 0);
            check.dueRow("its answer", Check.comparisonOf(x, 0), 0, 1, 0, 2);
        });
    }

    private static void undoRefused(Check check) {
        check.edge(9, "Throws `IllegalStateException` if no step can be undone", x -> {
            check.dueState(x, "of a new object", () -> x.undo());
            x.setWeight(0, 5);
            x.plan(0, 1, 1);
            x.append('0');
            check.dueState(x, "where no call was a step", () -> x.undo());
            x.compare(0, 0, 1, 1);
            x.undo();
            check.dueState(x, "where all are undone", () -> x.undo());
            x.compare(0, 0, 1, 1);
            x.begin(3, 2);
            check.dueState(x, "behind begin", () -> x.undo());
        });
    }
}
