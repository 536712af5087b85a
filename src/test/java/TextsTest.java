/** Promises 10 to 13: append, clearBuffer, firstError, load. */
public final class TextsTest {
    private static final Check CHECK = new Check("TextsTest");

    public static void main(String[] args) {
        append();
        clearBuffer();
        firstError();
        firstErrorOfOtherSizes();
        load();
        loadOfWrongTexts();
        loadWhenFull();
        longestText();
        CHECK.end();
    }

    private static void append() {
        ListeningTrials x = new ListeningTrials();
        CHECK.dueArgument(x, "append(32)", () -> x.append(32));
        CHECK.dueArgument(x, "append(127)", () -> x.append(127));
        CHECK.dueArgument(x, "append(-1)", () -> x.append(-1));
        CHECK.dueArgument(x, "append(97 + 65536)", () -> x.append(97 + 65536));
        CHECK.due("append(33)", x.append(33), 1);
        CHECK.due("append(126)", x.append(126), 2);
        for (int k = 3; k <= 60; k++) {
            CHECK.due("append", x.append(48), k);
        }
        CHECK.dueState(x, "a 61st character", () -> x.append(48));
        CHECK.dueArgument(x, "a wrong 61st character", () -> x.append(32));
        CHECK.due("no step", x.count(6), 0);
    }

    private static void clearBuffer() {
        ListeningTrials x = new ListeningTrials();
        CHECK.due("clearBuffer of nothing", x.clearBuffer(), 0);
        Check.append(x, "0:a");
        CHECK.due("clearBuffer", x.clearBuffer(), 3);
        CHECK.due("clearBuffer again", x.clearBuffer(), 0);
        CHECK.due("append afterwards", x.append('0'), 1);
    }

    private static void dueError(ListeningTrials x, String text, int want) {
        x.clearBuffer();
        Check.append(x, text);
        CHECK.due("firstError of " + text, x.firstError(), want);
        CHECK.due("length behind firstError of " + text, x.clearBuffer(), text.length());
    }

    private static void firstError() {
        ListeningTrials x = new ListeningTrials();
        String whole = "0:a>b,b<c,c=a;1:a<c;0:b=a";
        for (int k = 0; k <= whole.length(); k++) {
            dueError(x, whole.substring(0, k), k);
        }
        dueError(x, "2", 0);
        dueError(x, "a", 0);
        dueError(x, "/", 0);
        dueError(x, ";0:a>b", 0);
        dueError(x, "00", 1);
        dueError(x, "0a>b", 1);
        dueError(x, "0:d", 2);
        dueError(x, "0:A", 2);
        dueError(x, "0:`", 2);
        dueError(x, "0:ab", 3);
        dueError(x, "0:a?", 3);
        dueError(x, "0:a>a", 4);
        dueError(x, "0:a>d", 4);
        dueError(x, "0:a>=b", 4);
        dueError(x, "0:a>bc", 5);
        dueError(x, "0:a>b,,", 6);
        dueError(x, "0:a>b;a", 6);
        dueError(x, "0:a>b;2:a>b", 6);
        dueError(x, "0:a>b,1:a>b", 6);
        dueError(x, "0:a>b,b>c!0", 9);
        dueError(x, "x:a>b?y", 0);
    }

    private static void firstErrorOfOtherSizes() {
        ListeningTrials x = new ListeningTrials();
        x.begin(8, 8);
        dueError(x, "7:h>a;0:g=h", 11);
        dueError(x, "8:h>a", 0);
        dueError(x, "7:i>a", 2);
        x.begin(2, 1);
        dueError(x, "0:b<a", 5);
        dueError(x, "1:b<a", 0);
        dueError(x, "0:b<c", 4);
        Check.append(x, "0:c");
        CHECK.due("firstError with two samples", x.firstError(), 2);
        x.begin(3, 1);
        CHECK.due("firstError with three samples", x.firstError(), 3);
    }

    private static void load() {
        ListeningTrials x = new ListeningTrials();
        x.compare(1, 0, 1, 0);
        CHECK.due("load", Check.load(x, "1:a>b,c<b;0:c=a"), 3);
        CHECK.dueRow("comparison 0", Check.comparisonOf(x, 0), 1, 0, 1, 0);
        CHECK.dueRow("comparison 1", Check.comparisonOf(x, 1), 1, 0, 1, 1);
        CHECK.dueRow("comparison 2", Check.comparisonOf(x, 2), 1, 2, 1, 2);
        CHECK.dueRow("comparison 3", Check.comparisonOf(x, 3), 0, 2, 0, 0);
        CHECK.due("one step", x.count(6), 2);
        CHECK.due("the buffer is empty", x.clearBuffer(), 0);
        CHECK.due("undo", x.undo(), 1);
    }

    private static void loadOfWrongTexts() {
        String[] wrong = {"", "0", "0:", "0:a", "0:a>", "0:a>b,", "0:a>b;", "0:a>b;1", "0:a>b;1:",
            "2:a>b", "0:a>a", "0:a>d", "0:a>b!", "0:a>b,1:b>c", "0:a-b"};
        for (String text : wrong) {
            ListeningTrials x = new ListeningTrials();
            Check.append(x, text);
            CHECK.dueArgument(x, "load of '" + text + "'", () -> x.load());
            CHECK.due("buffer behind load of '" + text + "'", x.clearBuffer(), text.length());
        }
    }

    private static void loadWhenFull() {
        ListeningTrials x = new ListeningTrials();
        Check.repeat(x, 46, 0, 1, 1);
        Check.append(x, "0:a>b,a>b,a>b");
        CHECK.dueState(x, "load of three above 46", () -> x.load());
        x.remove(0);
        CHECK.due("load of three above 45", x.load(), 3);
        CHECK.due("comparisons", x.count(2), 48);
        Check.append(x, "0:a>");
        CHECK.dueArgument(x, "load of a part above 48", () -> x.load());
        x.append('b');
        CHECK.dueState(x, "load of one above 48", () -> x.load());
    }

    private static void longestText() {
        ListeningTrials x = new ListeningTrials();
        StringBuilder text = new StringBuilder("0:a>b");
        for (int k = 1; k < 14; k++) {
            text.append(",b=c");
        }
        CHECK.due("length", text.length(), 57);
        CHECK.due("load of fourteen pairs", Check.load(x, text.toString()), 14);
        Check.append(x, text + ",a<");
        CHECK.due("firstError of sixty characters", x.firstError(), 60);
        CHECK.dueArgument(x, "load of a part of sixty characters", () -> x.load());
    }
}
