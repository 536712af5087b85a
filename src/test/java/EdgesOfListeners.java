/** Sentences of promises 21 to 23: rings, consistency, agreement. */
final class EdgesOfListeners {
    private static final Class<?> INDEX = IndexOutOfBoundsException.class;

    private EdgesOfListeners() { }

    static void run(Check check) {
        rings(check);
        ringsOfMany(check);
        complete(check);
        mostRings(check);
        consistency(check);
        consistencyRefused(check);
        agreement(check);
        agreementOfNone(check);
        agreementRefused(check);
    }

    /** Each sample wins over those that come next around a circle, which makes the most rings. */
    private static void winAround(ListeningTrials x) {
        int n = x.count(0);
        for (int i = 0; i < n; i++) {
            for (int d = 1; 2 * d <= n; d++) {
                if (2 * d < n || i < d) {
                    x.compare(0, i, (i + d) % n, 1);
                }
            }
        }
    }

    private static void rings(Check check) {
        check.edge(21, "A ring of a listener is a set of three samples of which, in some sequence i, "
                + "j, k, the listener prefers i to j, j to k and k to i.", x -> {
            Check.load(x, "0:a>b,b>c;1:c>b,b>a");
            check.due("two of three", x.rings(0), 0);
            Check.load(x, "0:a=c;1:a>c");
            check.due("a tie closes none", x.rings(0), 0);
            check.due("in the one sequence", x.rings(1), 1);
            Check.load(x, "0:c>a");
            check.due("in the other sequence", x.rings(0), 1);
            Check.load(x, "0:b>a");
            check.due("an even pair breaks it", x.rings(0), 0);
            Check.load(x, "0:b>a,a>c,a>c");
            check.due("three turned round are none", x.rings(0), 0);
            Check.load(x, "0:c>b,c>b");
            check.due("three turned round", x.rings(0), 1);
        });
        check.edge(21, "Returns the number of rings of a listener.", x -> {
            Check.load(x, "0:a>b,b>c,c>a");
            x.setWeight(0, 0);
            check.due("of weight 0", x.rings(0), 1);
            check.due("of one who said nothing", x.rings(1), 0);
        });
    }

    private static void ringsOfMany(Check check) {
        check.edge(21, "Returns the number of rings.", x -> {
            x.begin(2, 1);
            x.compare(0, 0, 1, 1);
            check.due("of two samples", x.rings(0), 0);
            x.begin(8, 1);
            EdgesOfRanks.winDownwards(x);
            check.due("the least", x.rings(0), 0);
            x.begin(8, 1);
            winAround(x);
            check.due("the most", x.rings(0), 20);
        });
        check.edge(21, "`listener`: number of the listener", x -> {
            x.begin(3, 8);
            Check.load(x, "0:a>b,b>c,c>a;7:a>b,b>c,c>a");
            check.due("the first one", x.rings(0), 1);
            check.due("one between", x.rings(3), 0);
            check.due("the last one", x.rings(7), 1);
        });
        check.edge(21, "Throws `IndexOutOfBoundsException` if the listener does not exist", x -> {
            check.dueBeyond(x, "of 2", INDEX, 0, 1, n -> x.rings(n));
            x.begin(2, 8);
            check.dueBeyond(x, "of 8", INDEX, 0, 7, n -> x.rings(n));
            x.begin(2, 1);
            check.dueBeyond(x, "of 1", INDEX, 0, 0, n -> x.rings(n));
        });
    }

    private static void complete(Check check) {
        check.edge(22, "A listener is complete if the listener prefers one of the two samples of "
                + "each pair.", x -> {
            check.dueState(x, "no pair", () -> x.consistency(0));
            Check.load(x, "0:a>b,b>c,a=c");
            check.dueState(x, "a pair with a tie alone", () -> x.consistency(0));
            x.compare(1, 0, 2, 1);
            check.dueState(x, "a pair of another listener", () -> x.consistency(0));
            x.compare(0, 2, 0, 2);
            check.dueDouble("each pair", x.consistency(0), 1.0);
            x.compare(0, 2, 0, 1);
            check.dueState(x, "an even pair", () -> x.consistency(0));
            x.begin(8, 1);
            for (int i = 0; i < 8; i++) {
                for (int j = i + 1; j < 8; j++) {
                    if (i != 6) {
                        x.compare(0, i, j, 1);
                    }
                }
            }
            check.dueState(x, "all but the last pair", () -> x.consistency(0));
            x.compare(0, 6, 7, 1);
            check.dueDouble("the last pair too", x.consistency(0), 1.0);
        });
    }

    private static void mostRings(Check check) {
        check.edge(22, "The greatest possible number of rings for n samples is (n * n * n - n) / 24 "
                + "if n is odd, and (n * n * n - 4 * n) / 24 if n is even.", x -> {
            int[] most = {1, 2, 5, 8, 14, 20};
            for (int n = 3; n <= 8; n++) {
                x.begin(n, 1);
                EdgesOfRanks.winDownwards(x);
                Check.load(x, "0:c>a,c>a");
                check.due("rings", x.rings(0), 1);
                check.dueDouble("one ring of " + most[n - 3], x.consistency(0),
                        1.0 - 1.0 / most[n - 3]);
            }
        });
    }

    private static void consistency(Check check) {
        String sentence = "Returns the consistency of a complete listener: 1.0 - (rings of the "
                + "listener) / (greatest possible number of rings), where the division is made with "
                + "doubles; 1.0 if the greatest possible number is 0.";
        check.edge(22, sentence, x -> {
            x.begin(2, 1);
            x.compare(0, 1, 0, 1);
            check.dueDouble("of two samples, which can have no ring", x.consistency(0), 1.0);
        });
        check.edge(22, sentence, x -> {
            x.begin(7, 1);
            x.setWeight(0, 0);
            EdgesOfRanks.winDownwards(x);
            Check.load(x, "0:d>a,d>a,e>b,e>b");
            check.due("rings", x.rings(0), 4);
            check.dueDouble("four of fourteen", x.consistency(0), 1.0 - 4.0 / 14.0);
        });
        check.edge(22, "Returns the consistency.", x -> {
            for (int n = 3; n <= 8; n++) {
                x.begin(n, 1);
                winAround(x);
                check.dueDouble("the least", x.consistency(0), 0.0);
                x.begin(n, 1);
                EdgesOfRanks.winDownwards(x);
                check.dueDouble("the greatest", x.consistency(0), 1.0);
            }
        });
        check.edge(22, "`listener`: number of the listener", x -> {
            x.begin(2, 8);
            x.compare(0, 0, 1, 1);
            x.compare(7, 0, 1, 2);
            check.dueDouble("the first one", x.consistency(0), 1.0);
            check.dueDouble("the last one", x.consistency(7), 1.0);
            check.dueState(x, "one between", () -> x.consistency(3));
        });
    }

    private static void consistencyRefused(Check check) {
        check.edge(22, "Throws `IndexOutOfBoundsException` if the listener does not exist", x -> {
            check.dueBeyond(x, "of 2", INDEX, 0, 1, n -> x.consistency(n));
            x.begin(2, 8);
            check.dueBeyond(x, "of 8", INDEX, 0, 7, n -> x.consistency(n));
        });
        check.edge(22, "Throws `IllegalStateException` if the listener is not complete", x -> {
            x.begin(2, 1);
            check.dueState(x, "nothing answered", () -> x.consistency(0));
            x.compare(0, 0, 1, 0);
            check.dueState(x, "a tie", () -> x.consistency(0));
            Check.load(x, "0:a>b,b>a");
            check.dueState(x, "as many of both", () -> x.consistency(0));
            x.compare(0, 0, 1, 1);
            check.dueDouble("one more", x.consistency(0), 1.0);
        });
    }

    private static void agreement(Check check) {
        String sentence = "Returns how far two listeners agree: of the pairs of samples for which "
                + "each of them prefers one sample, the number of those where both prefer the same "
                + "one minus the number of the others, divided (with doubles) by the number of these "
                + "pairs.";
        check.edge(23, sentence, x -> {
            x.begin(4, 2);
            Check.load(x, "0:a>b,a>c,a>d;1:a>b,a>c,d>a,b>c");
            check.dueDouble("two of three", x.agreement(0, 1), (2.0 - 1.0) / 3.0);
            Check.load(x, "0:c>b");
            check.dueDouble("two of four", x.agreement(0, 1), 0.0);
            Check.load(x, "0:d>b;1:d<b");
            check.dueDouble("two of five", x.agreement(0, 1), (2.0 - 3.0) / 5.0);
            Check.load(x, "0:b>d");
            check.dueDouble("an even pair counts no more", x.agreement(0, 1), 0.0);
        });
        check.edge(23, sentence, x -> {
            x.begin(8, 3);
            for (int i = 0; i < 8; i++) {
                for (int j = i + 1; j < 8 && x.count(2) < 48; j++) {
                    x.compare(0, i, j, 1);
                    x.compare(1, j, i, i == 0 ? 2 : 1);
                }
            }
            check.due("comparisons", x.count(2), 48);
            check.dueDouble("7 and 17 of 24 pairs", x.agreement(0, 1), -10.0 / 24.0);
        });
        check.edge(23, "`one`: number of a listener", x -> {
            x.begin(2, 8);
            Check.load(x, "0:a>b;7:b>a");
            check.dueDouble("the first one", x.agreement(0, 7), -1.0);
            check.dueDouble("the last one", x.agreement(7, 0), -1.0);
        });
        check.edge(23, "`other`: number of a listener, also the same", x -> {
            x.begin(2, 8);
            Check.load(x, "0:a>b;7:b>a;3:a=b");
            check.dueDouble("the first one with itself", x.agreement(0, 0), 1.0);
            check.dueDouble("the last one with itself", x.agreement(7, 7), 1.0);
            check.dueDouble("one of ties with itself", x.agreement(3, 3), 0.0);
        });
    }

    private static void agreementOfNone(Check check) {
        check.edge(23, "Returns the agreement; 0.0 if there are no such pairs.", x -> {
            check.dueDouble("nothing there", x.agreement(0, 1), 0.0);
            Check.load(x, "0:a>b;1:b>c");
            check.dueDouble("other pairs", x.agreement(0, 1), 0.0);
            Check.load(x, "1:a=b");
            check.dueDouble("a tie", x.agreement(0, 1), 0.0);
            Check.load(x, "1:b<a");
            check.dueDouble("the same pair, played the other way", x.agreement(0, 1), 1.0);
        });
    }

    private static void agreementRefused(Check check) {
        check.edge(23, "Throws `IndexOutOfBoundsException` if a listener does not exist", x -> {
            check.dueBeyond(x, "one of 2", INDEX, 0, 1, n -> x.agreement(n, 0));
            check.dueBeyond(x, "other of 2", INDEX, 0, 1, n -> x.agreement(0, n));
            check.dueBeyond(x, "both", INDEX, 0, 1, n -> x.agreement(n, n));
            x.begin(2, 8);
            check.dueBeyond(x, "one of 8", INDEX, 0, 7, n -> x.agreement(n, 0));
            check.dueBeyond(x, "other of 8", INDEX, 0, 7, n -> x.agreement(0, n));
        });
    }
}
