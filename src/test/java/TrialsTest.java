/** Promises 1 to 9: a new object, begin, setWeight, plan, trial, answer, compare, remove, undo. */
public final class TrialsTest {
    private static final Check CHECK = new Check("TrialsTest");

    public static void main(String[] args) {
        newObject();
        begin();
        setWeight();
        plan();
        planOfMany();
        trial();
        answer();
        answerWhenFull();
        compare();
        remove();
        undo();
        undoKeepsTwelve();
        undoPutsThePlanBack();
        undoLeavesTheRest();
        CHECK.end();
    }

    private static void newObject() {
        ListeningTrials x = new ListeningTrials();
        CHECK.due("NONE", ListeningTrials.NONE, -1);
        CHECK.dueRow("counts of a new object", Check.countsOf(x), 3, 2, 0, 0, 0, 0, 0, -1);
        CHECK.due("clearBuffer of a new object", x.clearBuffer(), 0);
        CHECK.due("weight of 0", x.setWeight(0, 1), 1);
        CHECK.due("weight of 1", x.setWeight(1, 1), 1);
        CHECK.dueState(x, "undo of a new object", () -> x.undo());
        CHECK.dueState(x, "trial of a new object", () -> x.trial(0, false));
    }

    private static void begin() {
        ListeningTrials x = new ListeningTrials();
        for (int samples = 2; samples <= 8; samples++) {
            CHECK.due("begin", x.begin(samples, samples), samples * (samples - 1) / 2);
            CHECK.due("samples", x.count(0), samples);
            CHECK.due("listeners", x.count(1), samples);
        }
        CHECK.due("begin(2, 1)", x.begin(2, 1), 1);
        x.begin(4, 3);
        x.setWeight(2, 7);
        x.plan(1, 1, 5);
        x.answer(1);
        x.compare(2, 0, 3, 0);
        Check.append(x, "0:a");
        CHECK.dueArgument(x, "begin(1, 1)", () -> x.begin(1, 1));
        CHECK.dueArgument(x, "begin(9, 1)", () -> x.begin(9, 1));
        CHECK.dueArgument(x, "begin(2, 0)", () -> x.begin(2, 0));
        CHECK.dueArgument(x, "begin(2, 9)", () -> x.begin(2, 9));
        CHECK.dueArgument(x, "begin(min, 1)", () -> x.begin(Integer.MIN_VALUE, 1));
        CHECK.dueArgument(x, "begin(2, max)", () -> x.begin(2, Integer.MAX_VALUE));
        CHECK.due("begin(4, 3) again", x.begin(4, 3), 6);
        CHECK.dueRow("counts after begin", Check.countsOf(x), 4, 3, 0, 0, 0, 0, 0, -1);
        CHECK.due("weight after begin", x.setWeight(2, 1), 1);
        CHECK.dueState(x, "undo after begin", () -> x.undo());
        CHECK.due("the buffer outlives begin", x.clearBuffer(), 3);
    }

    private static void setWeight() {
        ListeningTrials x = new ListeningTrials();
        CHECK.due("setWeight(1, 9)", x.setWeight(1, 9), 1);
        CHECK.due("setWeight(1, 0)", x.setWeight(1, 0), 9);
        CHECK.due("setWeight(1, 4)", x.setWeight(1, 4), 0);
        CHECK.due("setWeight(0, 1)", x.setWeight(0, 1), 1);
        CHECK.due("no step", x.count(6), 0);
        CHECK.dueIndex(x, "setWeight(2, 1)", () -> x.setWeight(2, 1));
        CHECK.dueIndex(x, "setWeight(-1, 1)", () -> x.setWeight(-1, 1));
        CHECK.dueIndex(x, "setWeight(2, 10)", () -> x.setWeight(2, 10));
        CHECK.dueArgument(x, "setWeight(0, 10)", () -> x.setWeight(0, 10));
        CHECK.dueArgument(x, "setWeight(0, -1)", () -> x.setWeight(0, -1));
    }

    /** The draws of seed 1 are 16838, 5758, 10113, 17515, 31051, 5627, 23010, 7419, ... */
    private static void plan() {
        ListeningTrials x = new ListeningTrials();
        CHECK.due("plan(1, 1, 1)", x.plan(1, 1, 1), 3);
        CHECK.dueRow("trials of seed 1", Check.trialsOf(x, 3), 0, 1, 2, 1, 0, 2);
        CHECK.due("listener of the plan", x.count(7), 1);
        CHECK.due("trials left", x.count(5), 3);
        CHECK.due("no step", x.count(6), 0);
        CHECK.due("plan(0, 2, 1)", x.plan(0, 2, 1), 6);
        CHECK.dueRow("trials of seed 1, twice", Check.trialsOf(x, 6),
                2, 1, 0, 2, 1, 0, 2, 1, 2, 0, 0, 1);
        CHECK.due("listener of the new plan", x.count(7), 0);
        x.answer(0);
        CHECK.due("plan(0, 1, 1) again", x.plan(0, 1, 1), 3);
        CHECK.due("a new plan begins with its first trial", x.count(5), 3);
        CHECK.dueIndex(x, "plan(2, 1, 0)", () -> x.plan(2, 1, 0));
        CHECK.dueIndex(x, "plan(-1, 3, -1)", () -> x.plan(-1, 3, -1));
        CHECK.dueArgument(x, "plan(0, 0, 0)", () -> x.plan(0, 0, 0));
        CHECK.dueArgument(x, "plan(0, 3, 0)", () -> x.plan(0, 3, 0));
        CHECK.dueArgument(x, "plan(0, 1, -1)", () -> x.plan(0, 1, -1));
        CHECK.dueArgument(x, "plan(0, 2, min)", () -> x.plan(0, 2, Integer.MIN_VALUE));
    }

    private static void planOfMany() {
        ListeningTrials x = new ListeningTrials();
        x.begin(2, 1);
        x.plan(0, 1, 0);
        CHECK.dueRow("seed 0", Check.trialsOf(x, 1), 0, 1);
        x.plan(0, 1, 3);
        CHECK.dueRow("seed 3", Check.trialsOf(x, 1), 1, 0);
        x.plan(0, 1, Integer.MAX_VALUE);
        CHECK.dueRow("the greatest seed", Check.trialsOf(x, 1), 1, 0);
        x.plan(0, 2, 4);
        CHECK.dueRow("seed 4: the first is turned", Check.trialsOf(x, 2), 1, 0, 0, 1);
        x.plan(0, 2, 6);
        CHECK.dueRow("seed 6: the second is turned, then both change places",
                Check.trialsOf(x, 2), 1, 0, 0, 1);
        x.begin(8, 8);
        CHECK.due("plan(7, 2, max)", x.plan(7, 2, Integer.MAX_VALUE), 56);
        int[] times = new int[64];
        int[] trials = Check.trialsOf(x, 56);
        for (int k = 0; k < 56; k++) {
            int one = trials[2 * k];
            int other = trials[2 * k + 1];
            times[8 * Math.min(one, other) + Math.max(one, other)]++;
        }
        for (int i = 0; i < 8; i++) {
            for (int j = i + 1; j < 8; j++) {
                CHECK.due("trials of " + i + ", " + j, times[8 * i + j], 2);
            }
        }
    }

    private static void trial() {
        ListeningTrials x = new ListeningTrials();
        CHECK.dueState(x, "trial(-1) without a plan", () -> x.trial(-1, true));
        x.plan(0, 1, 1);
        x.answer(1);
        CHECK.due("an answered trial", x.trial(0, true), 1);
        CHECK.due("the last trial, first", x.trial(2, false), 0);
        CHECK.due("the last trial, second", x.trial(2, true), 2);
        CHECK.dueIndex(x, "trial(3)", () -> x.trial(3, false));
        CHECK.dueIndex(x, "trial(-1)", () -> x.trial(-1, false));
        CHECK.dueIndex(x, "trial(max)", () -> x.trial(Integer.MAX_VALUE, false));
    }

    private static void answer() {
        ListeningTrials x = new ListeningTrials();
        CHECK.dueState(x, "answer(3) without a plan", () -> x.answer(3));
        x.plan(1, 1, 1);
        CHECK.dueArgument(x, "answer(3)", () -> x.answer(3));
        CHECK.dueArgument(x, "answer(-1)", () -> x.answer(-1));
        CHECK.due("answer(2)", x.answer(2), 2);
        CHECK.due("answer(0)", x.answer(0), 1);
        CHECK.due("answer(1)", x.answer(1), 0);
        CHECK.dueRow("comparison 0", Check.comparisonOf(x, 0), 1, 0, 1, 2);
        CHECK.dueRow("comparison 1", Check.comparisonOf(x, 1), 1, 2, 1, 0);
        CHECK.dueRow("comparison 2", Check.comparisonOf(x, 2), 1, 0, 2, 1);
        CHECK.due("steps", x.count(6), 3);
        CHECK.due("listener of the answered plan", x.count(7), 1);
        CHECK.dueState(x, "answer(1) with no trial left", () -> x.answer(1));
        CHECK.dueState(x, "answer(3) with no trial left", () -> x.answer(3));
    }

    private static void answerWhenFull() {
        ListeningTrials x = new ListeningTrials();
        Check.repeat(x, 47, 0, 1, 0);
        x.plan(0, 1, 1);
        CHECK.due("answer as the 48th", x.answer(1), 2);
        CHECK.due("comparisons", x.count(2), 48);
        CHECK.dueState(x, "answer as the 49th", () -> x.answer(1));
        CHECK.dueState(x, "a wrong answer as the 49th", () -> x.answer(7));
        x.remove(0);
        CHECK.due("answer after remove", x.answer(1), 1);
    }

    private static void compare() {
        ListeningTrials x = new ListeningTrials();
        CHECK.due("compare(1, 2, 0, 2)", x.compare(1, 2, 0, 2), 0);
        CHECK.due("compare(0, 0, 1, 0)", x.compare(0, 0, 1, 0), 1);
        CHECK.dueRow("comparison 0", Check.comparisonOf(x, 0), 1, 2, 0, 2);
        CHECK.dueRow("comparison 1", Check.comparisonOf(x, 1), 0, 0, 1, 0);
        CHECK.due("steps", x.count(6), 2);
        wrongCompares(x);
        Check.repeat(x, 46, 1, 2, 1);
        CHECK.due("comparisons", x.count(2), 48);
        CHECK.dueState(x, "the 49th", () -> x.compare(0, 0, 1, 0));
        wrongCompares(x);
    }

    private static void wrongCompares(ListeningTrials x) {
        CHECK.dueIndex(x, "compare(2, 0, 1, 0)", () -> x.compare(2, 0, 1, 0));
        CHECK.dueIndex(x, "compare(-1, 0, 1, 0)", () -> x.compare(-1, 0, 1, 0));
        CHECK.dueIndex(x, "compare(0, 3, 1, 0)", () -> x.compare(0, 3, 1, 0));
        CHECK.dueIndex(x, "compare(0, -1, 1, 0)", () -> x.compare(0, -1, 1, 0));
        CHECK.dueIndex(x, "compare(0, 0, 3, 0)", () -> x.compare(0, 0, 3, 0));
        CHECK.dueIndex(x, "compare(0, 0, -1, 0)", () -> x.compare(0, 0, -1, 0));
        CHECK.dueIndex(x, "compare(0, 3, 3, 5)", () -> x.compare(0, 3, 3, 5));
        CHECK.dueArgument(x, "compare(0, 1, 1, 0)", () -> x.compare(0, 1, 1, 0));
        CHECK.dueArgument(x, "compare(0, 0, 1, 3)", () -> x.compare(0, 0, 1, 3));
        CHECK.dueArgument(x, "compare(0, 0, 1, -1)", () -> x.compare(0, 0, 1, -1));
    }

    private static void remove() {
        ListeningTrials x = new ListeningTrials();
        CHECK.dueIndex(x, "remove(0) of nothing", () -> x.remove(0));
        x.compare(0, 0, 1, 0);
        x.compare(0, 1, 2, 1);
        x.compare(1, 2, 0, 2);
        CHECK.dueIndex(x, "remove(3)", () -> x.remove(3));
        CHECK.dueIndex(x, "remove(-1)", () -> x.remove(-1));
        CHECK.due("remove(1)", x.remove(1), 2);
        CHECK.dueRow("comparison 0", Check.comparisonOf(x, 0), 0, 0, 1, 0);
        CHECK.dueRow("comparison 1", Check.comparisonOf(x, 1), 1, 2, 0, 2);
        CHECK.due("steps", x.count(6), 4);
        CHECK.due("remove(0)", x.remove(0), 1);
        CHECK.dueRow("comparison 0 then", Check.comparisonOf(x, 0), 1, 2, 0, 2);
        CHECK.due("remove(0) again", x.remove(0), 0);
        CHECK.due("comparisons", x.count(2), 0);
    }

    private static void undo() {
        ListeningTrials x = new ListeningTrials();
        long[] digests = new long[5];
        x.plan(1, 1, 1);
        digests[0] = x.digest();
        x.compare(0, 0, 1, 1);
        digests[1] = x.digest();
        x.answer(2);
        digests[2] = x.digest();
        Check.load(x, "0:a>b,b=c");
        digests[3] = x.digest();
        x.remove(1);
        int[] sizes = {0, 1, 2, 4};
        for (int k = 3; k >= 0; k--) {
            CHECK.due("undo to step " + k, x.undo(), sizes[k]);
            CHECK.due("digest after undo to step " + k, x.digest(), digests[k]);
        }
        CHECK.dueState(x, "undo beyond the first step", () -> x.undo());
        CHECK.dueRow("counts afterwards", Check.countsOf(x), 3, 2, 0, 0, 0, 3, 0, 1);
    }

    private static void undoKeepsTwelve() {
        ListeningTrials x = new ListeningTrials();
        for (int k = 0; k < 15; k++) {
            x.compare(0, k % 3, (k + 1) % 3, k % 2 + 1);
            CHECK.due("steps", x.count(6), Math.min(k + 1, 12));
        }
        for (int k = 14; k >= 3; k--) {
            CHECK.due("undo", x.undo(), k);
            CHECK.dueRow("the last one", Check.comparisonOf(x, k - 1),
                    0, (k - 1) % 3, k % 3, (k - 1) % 2 + 1);
        }
        CHECK.dueState(x, "a 13th undo", () -> x.undo());
        CHECK.due("what is left", x.count(2), 3);
        x.compare(1, 2, 1, 0);
        CHECK.due("steps after a new one", x.count(6), 1);
        CHECK.due("undo of the new one", x.undo(), 3);
    }

    /** A plan is no step, but undo makes the plan as it was before the step. */
    private static void undoPutsThePlanBack() {
        ListeningTrials x = new ListeningTrials();
        x.compare(0, 0, 1, 1);
        x.plan(1, 2, 5);
        x.answer(0);
        x.answer(0);
        x.plan(0, 1, 1);
        x.undo();
        CHECK.due("listener of the old plan", x.count(7), 1);
        CHECK.due("trials left of the old plan", x.count(5), 5);
        x.undo();
        CHECK.due("trials left before the answers", x.count(5), 6);
        x.undo();
        CHECK.due("no plan before the first step", x.count(7), -1);
        CHECK.dueState(x, "trial before the first step", () -> x.trial(0, false));
    }

    private static void undoLeavesTheRest() {
        ListeningTrials x = new ListeningTrials();
        Check.load(x, "0:a>b");
        x.setWeight(0, 5);
        Check.append(x, "1:");
        CHECK.due("undo", x.undo(), 0);
        CHECK.due("the weight stays", x.setWeight(0, 1), 5);
        CHECK.due("the buffer stays", x.clearBuffer(), 2);
    }
}
