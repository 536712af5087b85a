/** Sentences of promises 1 to 3: a new object, begin, setWeight. */
final class EdgesOfTrials {
    private static final Class<?> INDEX = IndexOutOfBoundsException.class;
    private static final Class<?> ARGUMENT = IllegalArgumentException.class;

    private EdgesOfTrials() { }

    static void run(Check check) {
        wholeLife(check);
        newObject(check);
        sizes(check);
        begin(check);
        beginRefused(check);
        weights(check);
        setWeight(check);
        setWeightRefused(check);
    }

    private static void wholeLife(Check check) {
        check.edge(1, "An object is used for at most 512 calls after it has been made; what later "
                + "calls answer is free.", x -> {
            ListeningTrials young = new ListeningTrials();
            for (int k = 0; k < 6; k++) {
                young.compare(1, 0, 2, 1);
                young.remove(0);
            }
            young.plan(1, 2, 255);
            for (int k = 1; k <= 255; k++) {
                x.compare(1, 0, 2, 1);
                x.remove(0);
            }
            check.due("the 511th call", x.plan(1, 2, 255), 6);
            check.due("the 512th call", x.digest(), young.digest());
        });
        check.edge(4, "An object is used for at most 512 calls after it has been made; what later "
                + "calls answer is free.", x -> {
            x.begin(8, 8);
            for (int seed = 1; seed <= 510; seed++) {
                x.plan(7, 2, seed);
            }
            ListeningTrials young = new ListeningTrials();
            young.begin(8, 8);
            young.plan(7, 2, 510);
            check.due("the 512th call, behind 510 plans", x.digest(), young.digest());
        });
    }

    private static void newObject(Check check) {
        check.edge(1, "Creates an evaluation with 3 samples and 2 listeners (as by begin), and an "
                + "empty buffer.", x -> {
            check.dueRow("counts", Check.countsOf(x), 3, 2, 0, 0, 0, 0, 0, -1);
            check.due("the last sample", x.sample(2, 0), 0);
            check.dueIndex(x, "a fourth sample", () -> x.sample(3, 0));
            check.due("the last listener", x.rings(1), 0);
            check.dueIndex(x, "a third listener", () -> x.rings(2));
            check.dueState(x, "undo of nothing", () -> x.undo());
            check.dueState(x, "trial of nothing", () -> x.trial(0, false));
            check.due("weight of 0", x.setWeight(0, 1), 1);
            check.due("weight of 1", x.setWeight(1, 1), 1);
            check.due("length of the buffer", x.clearBuffer(), 0);
            ListeningTrials begun = new ListeningTrials();
            begun.begin(3, 2);
            check.due("as by begin", x.digest(), begun.digest());
        });
        check.edge(14, "`NONE = -1`: There is nothing to return.", x -> {
            check.due("NONE", ListeningTrials.NONE, -1);
            check.due("the listener of no plan", x.count(7), -1);
        });
    }

    private static void sizes(Check check) {
        check.edge(2, "There are 2 to 8 samples, numbered from 0 and named 'a' to 'h', and 1 to 8 "
                + "listeners, numbered from 0.", x -> {
            for (int samples = 2; samples <= 8; samples++) {
                int listeners = samples == 2 ? 1 : samples;
                x.begin(samples, listeners);
                check.dueTaken("sample", 0, samples - 1, i -> x.sample(i, 0));
                check.dueBeyond(x, "sample", INDEX, 0, samples - 1, i -> x.sample(i, 0));
                check.dueTaken("rings", 0, listeners - 1, k -> x.rings(k));
                check.dueBeyond(x, "rings", INDEX, 0, listeners - 1, k -> x.rings(k));
                char last = (char) ('a' + samples - 1);
                Check.load(x, listeners - 1 + ":" + last + ">a");
                check.dueRow("the last name", Check.comparisonOf(x, 0),
                        listeners - 1, samples - 1, 0, 1);
                Check.append(x, "0:" + (char) (last + 1));
                check.due("the name behind the last one", x.firstError(), 2);
                x.clearBuffer();
            }
        });
    }

    private static void begin(Check check) {
        check.edge(2, "Begins anew: there are no comparisons, there is no plan, all weights are 1, "
                + "and no steps can be undone.", x -> {
            ListeningTrials full = Check.full();
            int length = full.clearBuffer();
            check.due("begin of a full one", full.begin(8, 8), 28);
            x.begin(8, 8);
            check.due("all is anew", full.digest(), x.digest());
            check.dueRow("counts", Check.countsOf(full), 8, 8, 0, 0, 0, 0, 0, -1);
            check.dueState(full, "undo", () -> full.undo());
            check.dueState(full, "trial", () -> full.trial(0, true));
            check.dueState(full, "answer", () -> full.answer(0));
            check.dueIndex(full, "remove", () -> full.remove(0));
            for (int listener = 0; listener < 8; listener++) {
                check.due("weight of " + listener, full.setWeight(listener, 1), 1);
            }
            check.due("length before", length, 60);
        });
        check.edge(2, "Begins anew: there are no comparisons, there is no plan, all weights are 1, "
                + "and no steps can be undone.", x -> {
            x.begin(2, 1);
            x.setWeight(0, 9);
            x.compare(0, 1, 0, 1);
            x.begin(3, 2);
            check.due("weight of the old listener", x.setWeight(0, 1), 1);
            x.compare(1, 2, 0, 1);
            check.due("steps count from begin", x.count(6), 1);
            check.due("undo", x.undo(), 0);
            check.dueState(x, "undo beyond begin", () -> x.undo());
            Check.append(x, "0:a");
            x.begin(2, 1);
            check.due("the buffer is not named, so it stays", x.clearBuffer(), 3);
        });
        check.edge(2, "Returns the number of pairs of samples.", x -> {
            int[] pairs = {1, 3, 6, 10, 15, 21, 28};
            for (int samples = 2; samples <= 8; samples++) {
                check.due("begin(" + samples + ", 1)", x.begin(samples, 1), pairs[samples - 2]);
                check.due("begin(" + samples + ", 8)", x.begin(samples, 8), pairs[samples - 2]);
            }
        });
    }

    private static void beginRefused(Check check) {
        check.edge(2, "`samples`: 2 to 8", x -> {
            check.dueBeyond(x, "begin(n, 2)", ARGUMENT, 2, 8, n -> x.begin(n, 2));
            check.dueTaken("begin(n, 2)", 2, 8, n -> x.begin(n, 2));
            check.due("the greatest", x.count(0), 8);
            x.begin(2, 2);
            check.due("the least", x.count(0), 2);
        });
        check.edge(2, "`listeners`: 1 to 8", x -> {
            check.dueBeyond(x, "begin(3, n)", ARGUMENT, 1, 8, n -> x.begin(3, n));
            check.dueTaken("begin(3, n)", 1, 8, n -> x.begin(3, n));
            check.due("the greatest", x.count(1), 8);
            x.begin(3, 1);
            check.due("the least", x.count(1), 1);
        });
        check.edge(2, "Throws `IllegalArgumentException` if an argument is out of range", x -> {
            ListeningTrials full = Check.full();
            check.dueArgument(full, "begin(1, 0)", () -> full.begin(1, 0));
            check.dueArgument(full, "begin(9, 9)", () -> full.begin(9, 9));
            check.dueArgument(full, "begin(8, 0)", () -> full.begin(8, 0));
            check.dueArgument(full, "begin(1, 8)", () -> full.begin(1, 8));
            check.due("steps stay", full.undo(), 47);
        });
    }

    private static void weights(Check check) {
        check.edge(3, "A listener has a weight from 0 to 9, which is 1 at first.", x -> {
            x.begin(2, 8);
            for (int listener = 0; listener < 8; listener++) {
                x.compare(listener, 0, 1, 1);
            }
            check.due("margin at first", x.result(0, 1, 2), 8);
            for (int listener = 0; listener < 8; listener++) {
                check.due("at first", x.setWeight(listener, 9), 1);
            }
            check.due("margin of the greatest weights", x.result(0, 1, 2), 72);
            for (int listener = 0; listener < 8; listener++) {
                x.setWeight(listener, 0);
            }
            check.due("margin of the least weights", x.result(0, 1, 2), 0);
        });
        check.edge(3, "Sets the weight of a listener.", x -> {
            Check.load(x, "0:a>b;1:b>c");
            x.setWeight(1, 7);
            check.due("margin of 0", x.result(0, 1, 2), 1);
            check.due("margin of 1", x.result(1, 2, 2), 7);
        });
    }

    private static void setWeight(Check check) {
        check.edge(3, "This is no step.", x -> {
            x.setWeight(0, 9);
            check.due("steps", x.count(6), 0);
            check.dueState(x, "undo", () -> x.undo());
            x.compare(0, 0, 1, 1);
            x.setWeight(0, 4);
            check.due("steps then", x.count(6), 1);
            check.due("undo", x.undo(), 0);
            check.due("undo leaves the weight", x.setWeight(0, 4), 4);
        });
        check.edge(3, "`listener`: number of the listener", x -> {
            x.begin(2, 8);
            check.due("the first one", x.setWeight(0, 2), 1);
            check.due("the last one", x.setWeight(7, 3), 1);
            check.due("the first one again", x.setWeight(0, 2), 2);
            check.due("the last one again", x.setWeight(7, 3), 3);
        });
        check.edge(3, "`weight`: 0 to 9", x -> {
            int before = 1;
            for (int weight = 0; weight <= 9; weight++) {
                check.due("setWeight(1, " + weight + ")", x.setWeight(1, weight), before);
                before = weight;
            }
        });
        check.edge(3, "Returns the previous weight.", x -> {
            check.due("the first", x.setWeight(0, 0), 1);
            check.due("behind 0", x.setWeight(0, 9), 0);
            check.due("behind 9", x.setWeight(0, 9), 9);
            check.due("the same again", x.setWeight(0, 5), 9);
            check.due("of the other one", x.setWeight(1, 5), 1);
        });
    }

    private static void setWeightRefused(Check check) {
        check.edge(3, "Throws `IndexOutOfBoundsException` if the listener does not exist", x -> {
            check.dueBeyond(x, "of two", INDEX, 0, 1, n -> x.setWeight(n, 5));
            x.begin(2, 8);
            check.dueBeyond(x, "of eight", INDEX, 0, 7, n -> x.setWeight(n, 5));
            x.begin(2, 1);
            check.dueBeyond(x, "of one", INDEX, 0, 0, n -> x.setWeight(n, 5));
        });
        check.edge(3, "Throws `IllegalArgumentException` if weight is not 0 to 9", x -> {
            x.setWeight(0, 6);
            check.dueBeyond(x, "weight", ARGUMENT, 0, 9, n -> x.setWeight(0, n));
            check.due("the weight stays", x.setWeight(0, 1), 6);
        });
    }
}
