/** Promises 14 to 16: count, comparison, result. */
public final class AnswersTest {
    private static final Check CHECK = new Check("AnswersTest");

    public static void main(String[] args) {
        count();
        comparison();
        result();
        preferences();
        CHECK.end();
    }

    private static void count() {
        ListeningTrials x = new ListeningTrials();
        x.begin(4, 3);
        Check.load(x, "0:a>b,b<c,c=d,d=a,a>c;2:d>a");
        CHECK.dueRow("counts", Check.countsOf(x), 4, 3, 6, 2, 3, 0, 1, -1);
        x.plan(2, 1, 9);
        x.answer(2);
        CHECK.dueRow("counts with a plan", Check.countsOf(x), 4, 3, 7, 2, 3, 5, 2, 2);
        CHECK.dueArgument(x, "count(8)", () -> x.count(8));
        CHECK.dueArgument(x, "count(-1)", () -> x.count(-1));
    }

    private static void comparison() {
        ListeningTrials x = new ListeningTrials();
        x.begin(8, 8);
        x.compare(7, 7, 6, 2);
        x.compare(0, 0, 7, 1);
        CHECK.dueRow("comparison 0", Check.comparisonOf(x, 0), 7, 7, 6, 2);
        CHECK.dueRow("comparison 1", Check.comparisonOf(x, 1), 0, 0, 7, 1);
        CHECK.dueIndex(x, "comparison(2, 0)", () -> x.comparison(2, 0));
        CHECK.dueIndex(x, "comparison(-1, 0)", () -> x.comparison(-1, 0));
        CHECK.dueIndex(x, "comparison(2, 4)", () -> x.comparison(2, 4));
        CHECK.dueArgument(x, "comparison(0, 4)", () -> x.comparison(0, 4));
        CHECK.dueArgument(x, "comparison(0, -1)", () -> x.comparison(0, -1));
    }

    private static void dueResults(ListeningTrials x, int i, int j, int... want) {
        int[] got = new int[4];
        for (int what = 0; what < 4; what++) {
            got[what] = x.result(i, j, what);
        }
        CHECK.dueRow("results of " + i + ", " + j, got, want);
    }

    private static void result() {
        ListeningTrials x = new ListeningTrials();
        x.setWeight(1, 5);
        Check.load(x, "0:a>b,b<a,b=a,a>b;1:b>a,c=b");
        dueResults(x, 0, 1, 3, 1, -2, 1);
        dueResults(x, 1, 0, 1, 1, 2, 1);
        dueResults(x, 1, 2, 0, 1, 0, 0);
        dueResults(x, 2, 1, 0, 1, 0, 0);
        dueResults(x, 0, 2, 0, 0, 0, 0);
        for (int i = 0; i < 3; i++) {
            dueResults(x, i, i, 0, 0, 0, 0);
        }
        CHECK.dueIndex(x, "result(3, 0, 0)", () -> x.result(3, 0, 0));
        CHECK.dueIndex(x, "result(0, 3, 0)", () -> x.result(0, 3, 0));
        CHECK.dueIndex(x, "result(-1, 0, 4)", () -> x.result(-1, 0, 4));
        CHECK.dueIndex(x, "result(0, -1, 4)", () -> x.result(0, -1, 4));
        CHECK.dueArgument(x, "result(0, 1, 4)", () -> x.result(0, 1, 4));
        CHECK.dueArgument(x, "result(1, 1, -1)", () -> x.result(1, 1, -1));
    }

    /** A listener of weight 0 prefers all the same; as many wins of both is no preference. */
    private static void preferences() {
        ListeningTrials x = new ListeningTrials();
        x.begin(2, 4);
        x.setWeight(0, 0);
        Check.load(x, "0:a>b,a>b,b>a;1:a>b,b>a;2:b<a;3:b>a");
        dueResults(x, 0, 1, 4, 0, 0, 2);
        dueResults(x, 1, 0, 3, 0, 0, 1);
    }
}
