import java.util.List;

/** Sentences of promises 18 to 20: order, summary, without. */
final class EdgesOfOrders {
    private static final Class<?> INDEX = IndexOutOfBoundsException.class;
    private static final Class<?> ARGUMENT = IllegalArgumentException.class;

    private EdgesOfOrders() { }

    static void run(Check check) {
        orders(check);
        bestOrders(check);
        order(check);
        ringsOfAll(check);
        summary(check);
        summaryOfEach(check);
        without(check);
        withoutNobody(check);
        withoutRefused(check);
    }

    private static void orders(Check check) {
        check.edge(18, "An order is a sequence of all samples.", x -> {
            for (int samples = 2; samples <= 8; samples++) {
                x.begin(samples, 1);
                x.compare(0, samples - 1, 0, 1);
                int seen = 0;
                for (int sample : Check.orderOf(x)) {
                    seen |= 1 << sample;
                }
                check.due("samples of the order", seen, (1 << samples) - 1);
            }
        });
        check.edge(19, "Its disagreement is the sum, over all pairs of samples where i stands before "
                + "j, of the margin of j over i if this is greater than 0.", x -> {
            check.due("of nothing", x.summary(0), 0);
            x.setWeight(0, 9);
            Check.load(x, "0:a>b,b>c;1:c>a,b>a");
            check.due("the least margin of a ring", x.summary(0), 1);
            x.setWeight(0, 0);
            check.due("of margins that agree", x.summary(0), 0);
            x.begin(3, 1);
            x.setWeight(0, 9);
            for (int k = 0; k < 16; k++) {
                Check.load(x, "0:a>b,b>c,c>a");
            }
            check.due("the greatest", x.summary(0), 144);
        });
    }

    private static void bestOrders(Check check) {
        String sentence = "The best order is the one with the least disagreement; of several, the "
                + "lexicographically smallest one.";
        check.edge(18, sentence, x -> {
            x.begin(8, 1);
            check.dueRow("of all orders", Check.orderOf(x), 0, 1, 2, 3, 4, 5, 6, 7);
            x.compare(0, 7, 0, 1);
            check.dueRow("with h before a", Check.orderOf(x), 1, 2, 3, 4, 5, 6, 7, 0);
            x.compare(0, 0, 7, 1);
            check.dueRow("of all orders again", Check.orderOf(x), 0, 1, 2, 3, 4, 5, 6, 7);
        });
        check.edge(18, sentence, x -> {
            Check.load(x, "0:c>b,b>a,a>c");
            check.dueRow("of three with one against", Check.orderOf(x), 0, 2, 1);
            Check.load(x, "0:c>b");
            check.dueRow("of two: c, b, a is not smaller", Check.orderOf(x), 0, 2, 1);
            Check.load(x, "0:b>a");
            check.dueRow("the one that is left", Check.orderOf(x), 2, 1, 0);
        });
        check.edge(18, sentence, x -> {
            ListeningTrials full = Check.full();
            Oracle oracle = oracleOf(full);
            oracle.findOrders();
            check.dueRow("of a full one", Check.orderOf(full), oracle.bestOrder);
            check.due("its disagreement", full.summary(0), oracle.disagreement);
            check.due("orders with it", full.summary(1), oracle.bestOrders);
        });
    }

    /** An oracle with the comparisons and weights of this object. */
    static Oracle oracleOf(ListeningTrials x) {
        Oracle oracle = new Oracle();
        oracle.begin(x.count(0), x.count(1));
        for (int listener = 0; listener < oracle.listeners; listener++) {
            oracle.weights[listener] = x.setWeight(listener, 0);
            x.setWeight(listener, oracle.weights[listener]);
        }
        for (int k = 0; k < x.count(2); k++) {
            oracle.add(List.of(new Oracle.Comparison(x.comparison(k, 0),
                    x.comparison(k, 1), x.comparison(k, 2), x.comparison(k, 3))));
        }
        return oracle;
    }

    private static void order(Check check) {
        check.edge(18, "Returns the sample at a place of the best order.", x -> {
            Check.load(x, "0:c>a,a>b");
            check.due("the first place", x.order(0), 2);
            check.due("the place between", x.order(1), 0);
            check.due("the last place", x.order(2), 1);
        });
        check.edge(18, "`place`: the index, from 0", x -> {
            x.begin(8, 1);
            x.compare(0, 7, 0, 1);
            check.due("the first place", x.order(0), 1);
            check.due("the last place", x.order(7), 0);
        });
        check.edge(18, "Returns the number of the sample.", x -> {
            x.begin(2, 1);
            x.compare(0, 0, 1, 2);
            check.due("the greater one first", x.order(0), 1);
            check.due("the least one last", x.order(1), 0);
        });
        check.edge(18, "Throws `IndexOutOfBoundsException` if there is no such place", x -> {
            for (int samples = 2; samples <= 8; samples++) {
                x.begin(samples, 1);
                check.dueTaken("order", 0, samples - 1, n -> x.order(n));
                check.dueBeyond(x, "order", INDEX, 0, samples - 1, n -> x.order(n));
            }
        });
    }

    private static void ringsOfAll(Check check) {
        check.edge(19, "A ring of all is the same with \"beats\" instead of \"prefers\".", x -> {
            check.due("of nothing", x.summary(4), 0);
            Check.load(x, "0:a>b,b>c;1:c>a");
            check.due("of two listeners together", x.summary(4), 1);
            check.due("not of one alone", x.rings(0) + x.rings(1), 0);
            x.setWeight(1, 0);
            check.due("without a margin", x.summary(4), 0);
            x.setWeight(1, 1);
            x.compare(0, 0, 2, 1);
            check.due("with an even pair", x.summary(4), 0);
        });
    }

    private static void summary(Check check) {
        check.edge(19, "Returns a number about all samples.", x -> {
            check.dueRow("of a new object", Check.summaryOf(x), 0, 6, 1, 7, 0, 3);
            ListeningTrials full = Check.full();
            Oracle oracle = oracleOf(full);
            for (int what = 0; what <= 5; what++) {
                check.due("of a full one: " + what, full.summary(what), oracle.summary(what));
            }
        });
        check.edge(19, "Returns the number.", x -> {
            x.begin(2, 1);
            check.dueRow("of two samples", Check.summaryOf(x), 0, 2, 1, 3, 0, 2);
            x.compare(0, 1, 0, 1);
            check.dueRow("of one win", Check.summaryOf(x), 0, 1, 2, 2, 0, 1);
        });
        check.edge(19, "Throws `IllegalArgumentException` if what is not 0 to 5", x -> {
            check.dueTaken("summary", 0, 5, n -> x.summary(n));
            check.dueBeyond(x, "summary", ARGUMENT, 0, 5, n -> x.summary(n));
        });
    }

    private static void summaryOfEach(Check check) {
        String sentence = "`what`: 0: the disagreement of the best order; 1: how many orders have "
                + "this disagreement; 2: the number of layers; 3: the top set, bit s for sample s; "
                + "4: the number of rings of all; 5: the number of samples whose rank is stable";
        check.edge(19, sentence, x -> {
            int[] orders = {2, 6, 24, 120, 720, 5040, 40320};
            for (int samples = 2; samples <= 8; samples++) {
                x.begin(samples, 1);
                check.dueRow("of nothing", Check.summaryOf(x),
                        0, orders[samples - 2], 1, (1 << samples) - 1, 0, samples);
            }
        });
        check.edge(19, sentence, x -> {
            x.begin(8, 1);
            EdgesOfRanks.winDownwards(x);
            check.dueRow("of one order", Check.summaryOf(x), 0, 1, 8, 1, 0, 1);
            Check.load(x, "0:h>a,h>a");
            check.dueRow("with one against", Check.summaryOf(x), 1, 1, 1, 255, 6, 1);
        });
        check.edge(19, sentence, x -> {
            x.begin(8, 1);
            for (int i = 0; i < 8; i++) {
                for (int d = 1; d <= 4; d++) {
                    if (d < 4 || i < 4) {
                        x.compare(0, i, (i + d) % 8, 1);
                    }
                }
            }
            check.due("the most rings", x.summary(4), 20);
        });
    }

    private static void without(Check check) {
        check.edge(20, "Returns what would be so without a listener: the results of sample or "
                + "summary if the weight of the listener were 0.", x -> {
            ListeningTrials full = Check.full();
            for (int listener = 0; listener < 8; listener++) {
                ListeningTrials less = Check.full();
                less.setWeight(listener, 0);
                for (int what = 0; what <= 5; what++) {
                    check.due("summary", full.without(listener, -1, what), less.summary(what));
                    for (int i = 0; i < 8; i++) {
                        check.due("sample", full.without(listener, i, what), less.sample(i, what));
                    }
                }
            }
        });
        check.edge(20, "Nothing is changed.", x -> {
            Check.load(x, "0:a>b;1:b>a,b>c");
            x.setWeight(0, 9);
            long before = x.digest();
            int points = x.sample(0, 0);
            x.without(0, 0, 0);
            check.due("the weight", x.setWeight(0, 9), 9);
            check.due("the points", x.sample(0, 0), points);
            x.without(0, 1, 5);
            check.dueRow("the order", Check.orderOf(x), 0, 1, 2);
            x.without(0, -1, 3);
            check.due("the digest", x.digest(), before);
            check.due("the steps", x.count(6), 1);
        });
        check.edge(20, "Returns the result of sample(sample, what), or of summary(what), as it would "
                + "be.", x -> {
            Check.load(x, "0:a>b;1:c>b");
            int[] sample = new int[6];
            int[] summary = new int[6];
            for (int what = 0; what <= 5; what++) {
                sample[what] = x.without(0, 0, what);
                summary[what] = x.without(0, -1, what);
            }
            check.dueRow("of sample", sample, 0, 2, 0, 0, 0, 0);
            check.dueRow("of summary", summary, 0, 3, 1, 7, 0, 1);
        });
    }

    private static void withoutNobody(Check check) {
        check.edge(20, "`listener`: number of the listener", x -> {
            x.begin(2, 8);
            x.compare(0, 0, 1, 1);
            x.compare(7, 0, 1, 1);
            x.compare(7, 0, 1, 1);
            check.due("the first one", x.without(0, 0, 0), 4);
            check.due("the last one", x.without(7, 0, 0), 2);
            check.due("one who said nothing", x.without(3, 0, 0), 6);
            x.setWeight(7, 0);
            check.due("one of weight 0", x.without(7, 0, 0), 2);
        });
        check.edge(20, "`sample`: sample number for a result of sample, NONE for a result of "
                + "summary", x -> {
            x.begin(8, 2);
            Check.load(x, "0:h>a;1:a>b");
            check.due("the first one", x.without(1, 0, 3), -1);
            check.due("the last one", x.without(1, 7, 3), 1);
            check.due("NONE", x.without(1, ListeningTrials.NONE, 1), 20160);
        });
        check.edge(20, "`what`: 0 to 5", x -> {
            check.dueTaken("of a sample", 0, 5, n -> x.without(0, 0, n));
            check.dueTaken("of the summary", 0, 5, n -> x.without(0, -1, n));
        });
    }

    private static void withoutRefused(Check check) {
        check.edge(20, "Throws `IndexOutOfBoundsException` if the listener does not exist, or sample "
                + "is neither NONE nor the number of a sample", x -> {
            x.compare(0, 0, 1, 1);
            check.dueBeyond(x, "listener", INDEX, 0, 1, n -> x.without(n, 0, 0));
            check.dueBeyond(x, "listener, summary", INDEX, 0, 1, n -> x.without(n, -1, 0));
            check.dueBeyond(x, "sample", INDEX, -1, 2, n -> x.without(0, n, 0));
            x.begin(8, 8);
            check.dueBeyond(x, "listener of 8", INDEX, 0, 7, n -> x.without(n, 0, 0));
            check.dueBeyond(x, "sample of 8", INDEX, -1, 7, n -> x.without(0, n, 0));
        });
        check.edge(20, "Throws `IllegalArgumentException` if what is not 0 to 5", x -> {
            check.dueBeyond(x, "of a sample", ARGUMENT, 0, 5, n -> x.without(1, 2, n));
            check.dueBeyond(x, "of the summary", ARGUMENT, 0, 5, n -> x.without(1, -1, n));
        });
    }
}
