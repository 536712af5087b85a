import java.util.List;

/** Sentences of promises 4 to 6: plan, trial, answer. */
final class EdgesOfPlans {
    private static final Class<?> INDEX = IndexOutOfBoundsException.class;
    private static final Class<?> ARGUMENT = IllegalArgumentException.class;

    private EdgesOfPlans() { }

    static void run(Check check) {
        listed(check);
        drawn(check);
        shuffled(check);
        plan(check);
        planRefused(check);
        trial(check);
        trialRefused(check);
        currentTrial(check);
        answer(check);
        answerRefused(check);
    }

    /** The trials that the document's words make, with a whole number of any size for x. */
    private static int[] wordsOf(int samples, int repeats, int seed) {
        Oracle oracle = new Oracle();
        oracle.begin(samples, 1);
        oracle.plan(0, repeats, seed);
        List<int[]> trials = oracle.plan.trials();
        int[] row = new int[2 * trials.size()];
        for (int k = 0; k < trials.size(); k++) {
            row[2 * k] = trials.get(k)[0];
            row[2 * k + 1] = trials.get(k)[1];
        }
        return row;
    }

    private static void dueTrials(Check check, ListeningTrials x, int repeats, int seed) {
        int number = x.plan(0, repeats, seed);
        check.dueRow("plan of " + x.count(0) + " samples, " + repeats + " times, seed " + seed,
                Check.trialsOf(x, number), wordsOf(x.count(0), repeats, seed));
    }

    private static void listed(Check check) {
        check.edge(4, "A plan is a sequence of trials for a listener; a trial is a sample that is "
                + "played first, and a sample that is played second.", x -> {
            x.plan(1, 1, 1);
            check.due("its listener", x.count(7), 1);
            check.dueRow("its trials", Check.trialsOf(x, 3), 0, 1, 2, 1, 0, 2);
        });
        check.edge(4, "To make a plan of r repeats: the trials are listed r times one after the "
                + "other, each time one for each pair of samples i less than j, ordered by i, then "
                + "by j, with i as the first sample.", x -> {
            for (int samples = 2; samples <= 8; samples++) {
                x.begin(samples, 1);
                dueTrials(check, x, 1, 5);
                dueTrials(check, x, 2, 5);
            }
        });
    }

    private static void drawn(Check check) {
        check.edge(4, "The random number x is seed at first.", x -> {
            x.begin(2, 1);
            int[] turned = new int[8];
            for (int seed = 0; seed < 8; seed++) {
                x.plan(0, 1, seed);
                turned[seed] = x.trial(0, false);
            }
            // Their first numbers, before modulo 2, are 0, 16838, 908, 17747, 1817, 18655, 2726
            // and 19564.
            check.dueRow("first samples of the seeds 0 to 7", turned, 0, 0, 0, 1, 1, 1, 0, 0);
        });
        check.edge(4, "To draw a number below n means: x becomes (1103515245 * x + 12345) modulo 2 "
                + "to the power of 31, and the number is (x / 65536, rounded down) modulo n.",
                x -> {
            x.begin(2, 1);
            x.plan(0, 1, Integer.MAX_VALUE);
            // 1103515245 * 2147483647 + 12345 modulo 2147483648 is 1043980748, of which the upper
            // part is 15929.
            check.dueRow("the greatest seed", Check.trialsOf(x, 1), 1, 0);
            int[] seeds = {0, 1, 2, 3, 65535, 65536, 1 << 30, Integer.MAX_VALUE - 1,
                Integer.MAX_VALUE};
            for (int seed : seeds) {
                for (int samples = 2; samples <= 8; samples++) {
                    x.begin(samples, 1);
                    dueTrials(check, x, 2, seed);
                }
            }
        });
        check.edge(4, "For each trial of the list, in order, a number below 2 is drawn; if it is 1, "
                + "both samples of the trial are exchanged.", x -> {
            x.begin(2, 1);
            x.plan(0, 2, 4);
            check.dueRow("1, 0, then no change of places", Check.trialsOf(x, 2), 1, 0, 0, 1);
            x.plan(0, 2, 2);
            check.dueRow("0, 1, then no change of places", Check.trialsOf(x, 2), 0, 1, 1, 0);
            x.plan(0, 2, 3);
            check.dueRow("1, 1", Check.trialsOf(x, 2), 1, 0, 1, 0);
            x.plan(0, 2, 0);
            check.dueRow("0, 0", Check.trialsOf(x, 2), 0, 1, 0, 1);
        });
    }

    private static void shuffled(Check check) {
        check.edge(4, "Then the list is shuffled: for k from the last index down to 1, a number "
                + "below k + 1 is drawn, and the trials at the indices k and at the drawn number "
                + "are exchanged.", x -> {
            x.begin(2, 1);
            x.plan(0, 1, 6);
            check.dueRow("one trial has no place to go", Check.trialsOf(x, 1), 0, 1);
            x.plan(0, 2, 6);
            check.dueRow("two change places", Check.trialsOf(x, 2), 1, 0, 0, 1);
            for (int seed = 0; seed < 16; seed++) {
                dueTrials(check, x, 2, seed);
            }
            x.begin(8, 1);
            dueTrials(check, x, 2, 6);
        });
    }

    private static void plan(Check check) {
        check.edge(4, "Makes a plan, in place of the one that there may be.", x -> {
            check.due("where there was none", x.plan(0, 2, 1), 6);
            x.answer(1);
            check.due("in place of it", x.plan(1, 1, 1), 3);
            check.dueRow("its trials", Check.trialsOf(x, 3), wordsOf(3, 1, 1));
            check.due("its listener", x.count(7), 1);
            check.due("all its trials are left", x.count(5), 3);
            check.dueIndex(x, "a trial of the old one", () -> x.trial(3, false));
            check.due("the answer to the old one stays", x.count(2), 1);
            check.due("answer", x.answer(0), 2);
            check.dueRow("the first trial is answered", Check.comparisonOf(x, 1), 1, 0, 1, 0);
        });
        check.edge(4, "This is no step.", x -> {
            x.plan(0, 1, 1);
            check.due("steps", x.count(6), 0);
            check.dueState(x, "undo", () -> x.undo());
        });
        check.edge(4, "`listener`: number of the listener", x -> {
            x.begin(2, 8);
            x.plan(0, 1, 0);
            check.due("the first one", x.count(7), 0);
            x.plan(7, 1, 0);
            check.due("the last one", x.count(7), 7);
        });
        check.edge(4, "`repeats`: 1 or 2", x -> {
            check.due("once", x.plan(0, 1, 0), 3);
            check.due("twice", x.plan(0, 2, 0), 6);
        });
        check.edge(4, "`seed`: 0 or more", x -> {
            check.due("the least", x.plan(0, 1, 0), 3);
            check.dueRow("its trials", Check.trialsOf(x, 3), wordsOf(3, 1, 0));
            check.due("the greatest", x.plan(0, 1, Integer.MAX_VALUE), 3);
            check.dueRow("its trials", Check.trialsOf(x, 3), wordsOf(3, 1, Integer.MAX_VALUE));
        });
        check.edge(4, "Returns the number of trials.", x -> {
            int[] pairs = {1, 3, 6, 10, 15, 21, 28};
            for (int samples = 2; samples <= 8; samples++) {
                x.begin(samples, 1);
                check.due("once", x.plan(0, 1, 3), pairs[samples - 2]);
                check.due("twice", x.plan(0, 2, 3), 2 * pairs[samples - 2]);
            }
        });
    }

    private static void planRefused(Check check) {
        check.edge(4, "Throws `IndexOutOfBoundsException` if the listener does not exist", x -> {
            x.plan(1, 2, 9);
            check.dueBeyond(x, "of two", INDEX, 0, 1, n -> x.plan(n, 1, 0));
            check.due("the plan stays", x.count(5), 6);
            x.begin(8, 8);
            check.dueBeyond(x, "of eight", INDEX, 0, 7, n -> x.plan(n, 1, 0));
            x.begin(2, 1);
            check.dueBeyond(x, "of one", INDEX, 0, 0, n -> x.plan(n, 1, 0));
            check.due("there is no plan", x.count(7), -1);
        });
        check.edge(4, "Throws `IllegalArgumentException` if repeats is not 1 or 2, or seed is "
                + "negative", x -> {
            x.plan(1, 2, 9);
            x.answer(1);
            check.dueBeyond(x, "repeats", ARGUMENT, 1, 2, n -> x.plan(0, n, 0));
            check.dueArgument(x, "seed -1", () -> x.plan(0, 1, -1));
            check.dueArgument(x, "the least seed", () -> x.plan(0, 1, Integer.MIN_VALUE));
            check.dueArgument(x, "both", () -> x.plan(0, 0, -1));
            check.due("the plan stays", x.count(7), 1);
            check.due("so do its trials", x.count(5), 5);
        });
    }

    private static void trial(Check check) {
        check.edge(5, "Returns a sample of a trial of the plan.", x -> {
            x.plan(0, 1, 1);
            check.dueRow("trials", Check.trialsOf(x, 3), 0, 1, 2, 1, 0, 2);
            x.answer(1);
            x.answer(1);
            x.answer(1);
            check.dueRow("trials, answered", Check.trialsOf(x, 3), 0, 1, 2, 1, 0, 2);
        });
        check.edge(5, "`trial`: the index of the trial, from 0", x -> {
            x.begin(8, 1);
            x.plan(0, 2, 77);
            int[] want = wordsOf(8, 2, 77);
            check.due("the first one", x.trial(0, false), want[0]);
            check.due("the last one", x.trial(55, false), want[110]);
        });
        check.edge(5, "`second`: false for the sample that is played first, true for the other one",
                x -> {
            x.plan(0, 1, 1);
            check.due("false", x.trial(1, false), 2);
            check.due("true", x.trial(1, true), 1);
        });
        check.edge(5, "Returns the number of the sample.", x -> {
            x.begin(8, 1);
            x.plan(0, 1, 0);
            int least = 8;
            int greatest = -1;
            for (int k = 0; k < 28; k++) {
                least = Math.min(least, Math.min(x.trial(k, false), x.trial(k, true)));
                greatest = Math.max(greatest, Math.max(x.trial(k, false), x.trial(k, true)));
            }
            check.due("the least", least, 0);
            check.due("the greatest", greatest, 7);
        });
    }

    private static void trialRefused(Check check) {
        check.edge(5, "Throws `IllegalStateException` if there is no plan", x -> {
            check.dueState(x, "of a new object", () -> x.trial(0, false));
            check.dueState(x, "a wrong one of a new object", () -> x.trial(-1, true));
            x.compare(0, 0, 1, 1);
            x.plan(0, 1, 1);
            x.undo();
            check.dueState(x, "undone to where no plan was", () -> x.trial(0, false));
            x.plan(0, 1, 1);
            x.begin(3, 2);
            check.dueState(x, "behind begin", () -> x.trial(0, false));
        });
        check.edge(5, "Throws `IndexOutOfBoundsException` if the plan has no such trial", x -> {
            x.plan(0, 1, 1);
            check.dueBeyond(x, "of three", INDEX, 0, 2, n -> x.trial(n, false));
            x.begin(8, 1);
            x.plan(0, 2, 1);
            check.dueBeyond(x, "of 56", INDEX, 0, 55, n -> x.trial(n, true));
            x.begin(2, 1);
            x.plan(0, 1, 1);
            check.dueBeyond(x, "of one", INDEX, 0, 0, n -> x.trial(n, true));
        });
    }

    private static void currentTrial(Check check) {
        check.edge(6, "The current trial of a plan is the first one that has not been answered.",
                x -> {
            x.plan(0, 1, 1);
            x.answer(1);
            x.compare(1, 1, 2, 0);
            x.remove(0);
            x.answer(2);
            check.dueRow("an answer that is removed stays one", Check.comparisonOf(x, 1),
                    0, 2, 1, 2);
            x.undo();
            x.answer(0);
            check.dueRow("an answer that is undone is none", Check.comparisonOf(x, 1), 0, 2, 1, 0);
        });
        check.edge(6, "Adds the comparison by which the listener of the plan answers its current "
                + "trial.", x -> {
            x.plan(1, 1, 1);
            x.answer(2);
            check.dueRow("the first trial", Check.comparisonOf(x, 0), 1, 0, 1, 2);
            x.answer(1);
            x.answer(0);
            check.dueRow("the last trial", Check.comparisonOf(x, 2), 1, 0, 2, 0);
            check.due("comparisons", x.count(2), 3);
        });
        check.edge(6, "The next trial is the current one then.", x -> {
            x.begin(8, 1);
            x.plan(0, 2, 31);
            for (int k = 0; k < 48; k++) {
                x.answer(k % 3);
                check.dueRow("comparison " + k, Check.comparisonOf(x, k),
                        0, x.trial(k, false), x.trial(k, true), k % 3);
            }
        });
    }

    private static void answer(Check check) {
        check.edge(6, "This is a step.", x -> {
            x.plan(0, 1, 1);
            x.answer(1);
            check.due("steps", x.count(6), 1);
            check.due("undo", x.undo(), 0);
            check.due("trials left", x.count(5), 3);
        });
        check.edge(6, "`answer`: 0 to 2", x -> {
            x.plan(0, 1, 1);
            check.dueTaken("answer", 0, 2, n -> x.answer(n));
            for (int k = 0; k < 3; k++) {
                check.due("answer " + k, x.comparison(k, 3), k);
            }
        });
        check.edge(6, "Returns how many trials of the plan are left.", x -> {
            x.begin(2, 1);
            x.plan(0, 1, 0);
            check.due("of one", x.answer(0), 0);
            x.begin(8, 1);
            x.plan(0, 2, 0);
            for (int k = 1; k <= 48; k++) {
                check.due("of 56", x.answer(0), 56 - k);
            }
        });
    }

    private static void answerRefused(Check check) {
        String sentence = "Throws `IllegalStateException` if there is no plan, or no trial is left, "
                + "or there are 48 comparisons";
        check.edge(6, sentence, x -> {
            check.dueState(x, "no plan", () -> x.answer(0));
            x.plan(0, 1, 1);
            x.begin(3, 2);
            check.dueState(x, "no plan behind begin", () -> x.answer(0));
        });
        check.edge(6, sentence, x -> {
            x.begin(2, 1);
            x.plan(0, 1, 1);
            x.answer(0);
            check.dueState(x, "no trial is left", () -> x.answer(0));
            x.plan(0, 1, 1);
            check.due("a new plan", x.answer(0), 0);
        });
        check.edge(6, sentence, x -> {
            x.plan(0, 1, 1);
            Check.repeat(x, 47, 0, 1, 1);
            check.due("the 48th comparison", x.answer(0), 2);
            check.dueState(x, "a 49th comparison", () -> x.answer(0));
            check.due("trials left", x.count(5), 2);
            x.remove(47);
            check.due("behind remove", x.answer(0), 1);
        });
        check.edge(6, "Throws `IllegalArgumentException` if answer is not 0 to 2", x -> {
            x.plan(0, 1, 1);
            check.dueBeyond(x, "answer", ARGUMENT, 0, 2, n -> x.answer(n));
            check.due("trials left", x.count(5), 3);
        });
    }
}
