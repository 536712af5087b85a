/** Sentences of promises 27 and 28: strength, misfit. */
final class EdgesOfStrengths {
    private static final Class<?> INDEX = IndexOutOfBoundsException.class;
    private static final Class<?> ARGUMENT = IllegalArgumentException.class;

    private EdgesOfStrengths() { }

    static void run(Check check) {
        rounds(check);
        startAndWins(check);
        newValues(check);
        scaledValues(check);
        strength(check);
        strengthRefused(check);
        misfit(check);
        misfitOfEdges(check);
        misfitRefused(check);
    }

    private static void dueStrengths(Check check, ListeningTrials x, int rounds, double... want) {
        for (int i = 0; i < want.length; i++) {
            check.dueDouble("strength(" + i + ", " + rounds + ")", x.strength(i, rounds), want[i]);
        }
    }

    private static void rounds(Check check) {
        check.edge(27, "The strengths are doubles, computed in rounds.", x -> {
            // Sample a has 2 of 3 wins: 1 / (3 / 2) * 2 = 4 / 3 and 2 / 3, which then stay.
            x.begin(2, 1);
            Check.load(x, "0:a>b,a>b,b>a");
            double a = 2.0 / (3 / 2.0);
            double b = 1.0 / (3 / 2.0);
            double t = 0.0 + a + b;
            dueStrengths(check, x, 1, a * (2 / t), b * (2 / t));
        });
        check.edge(27, "All computations are made in the order in which they are described; sums "
                + "begin with 0.0, and values are added in ascending order of the samples.", x -> {
            ListeningTrials full = Check.full();
            Oracle oracle = EdgesOfOrders.oracleOf(full);
            for (int rounds = 0; rounds <= 60; rounds++) {
                dueStrengths(check, full, rounds, oracle.strengths(rounds));
                check.dueDouble("misfit(" + rounds + ")", full.misfit(rounds),
                        oracle.misfit(rounds));
            }
        });
    }

    private static void startAndWins(Check check) {
        check.edge(27, "At first all strengths are 1.0.", x -> {
            dueStrengths(check, x, 0, 1.0, 1.0, 1.0);
            dueStrengths(check, Check.full(), 0, 1.0, 1.0, 1.0, 1.0, 1.0, 1.0, 1.0, 1.0);
        });
        check.edge(27, "Let w(i) be the wins of sample i over all others plus 0.5 times its ties, and "
                + "n(i, j) the number of all comparisons of i and j (weights do not matter).", x -> {
            x.begin(2, 2);
            x.setWeight(0, 0);
            x.setWeight(1, 9);
            Check.load(x, "0:a>b,a=b,b=a;1:b<a");
            // w is 3 and 1, n is 4.
            dueStrengths(check, x, 1, 1.5, 0.5);
            x.begin(2, 1);
            Check.repeat(x, 48, 0, 1, 0);
            dueStrengths(check, x, 60, 1.0, 1.0);
            x.begin(2, 1);
            Check.repeat(x, 48, 0, 1, 2);
            dueStrengths(check, x, 1, 0.0, 2.0);
            dueStrengths(check, x, 60, 0.0, 2.0);
        });
    }

    private static void newValues(Check check) {
        String sentence = "In a round, for each sample i: let s be the sum, over all other samples j "
                + "with n(i, j) greater than 0 for which strength(i) + strength(j) is greater than "
                + "0.0, of n(i, j) / (strength(i) + strength(j)), with the strengths before the "
                + "round; the new value of i is w(i) / s if s is greater than 0.0, otherwise its "
                + "strength before the round.";
        check.edge(27, sentence, x -> {
            // Nothing is compared: s is 0.0 for all.
            dueStrengths(check, x, 1, 1.0, 1.0, 1.0);
            dueStrengths(check, x, 60, 1.0, 1.0, 1.0);
        });
        check.edge(27, sentence, x -> {
            Check.load(x, "0:a>b,a=b");
            // s is 1, 1 and 0.0, so the new values are 1.5, 0.5, and 1.0 as before.
            dueStrengths(check, x, 1, 1.5, 0.5, 1.0);
        });
        check.edge(27, sentence, x -> {
            Check.load(x, "0:a>b,b>c");
            dueStrengths(check, x, 1, 2.0, 1.0, 0.0);
            // The strengths before the round are 2, 1 and 0, whose sums are 3 and 1.
            double a = 1.0 / (1 / 3.0);
            double b = 1.0 / (1 / 3.0 + 1 / 1.0);
            double t = a + b + 0.0;
            dueStrengths(check, x, 2, a * (3 / t), b * (3 / t), 0.0);
        });
    }

    private static void scaledValues(Check check) {
        check.edge(27, "Then let t be the sum of all new values; the strength of each sample becomes "
                + "its new value times (number of samples / t) if t is greater than 0.0, otherwise "
                + "its new value.", x -> {
            x.begin(8, 1);
            x.compare(0, 7, 0, 1);
            // New values: 0, six times 1, and 1 / (1 / 2).
            double scale = 8 / 8.0;
            dueStrengths(check, x, 1, 0.0, 1.0, 1.0, 1.0, 1.0, 1.0, 1.0, 2.0 * scale);
            x.begin(3, 1);
            Check.load(x, "0:a>b,a>c");
            // New values: 2 / (1 / 2 + 1 / 2), 0 and 0, so t is 2.
            dueStrengths(check, x, 1, 2.0 * (3 / 2.0), 0.0, 0.0);
            dueStrengths(check, x, 60, 3.0, 0.0, 0.0);
        });
    }

    private static void strength(Check check) {
        check.edge(27, "Returns a strength.", x -> {
            x.begin(2, 1);
            Check.load(x, "0:a>b,a>b,a>b,b>a");
            check.dueDouble("of a", x.strength(0, 1), 1.5);
            check.dueDouble("of b", x.strength(1, 1), 0.5);
        });
        check.edge(27, "`sample`: sample number", x -> {
            x.begin(8, 1);
            x.compare(0, 7, 0, 1);
            check.dueDouble("the first one", x.strength(0, 1), 0.0);
            check.dueDouble("the last one", x.strength(7, 1), 2.0);
        });
        check.edge(27, "`rounds`: the number of rounds, 0 to 60", x -> {
            Check.load(x, "0:a>b,b>c;1:c>a,a>b");
            Oracle oracle = EdgesOfOrders.oracleOf(x);
            check.dueDouble("the least", x.strength(0, 0), 1.0);
            check.dueDouble("the greatest", x.strength(0, 60), oracle.strengths(60)[0]);
            check.dueTaken("strength", 0, 60, n -> x.strength(2, n));
        });
        check.edge(27, "Returns the strength of the sample after this number of rounds.", x -> {
            // The last one has no win, so that the strengths go on changing in every round.
            Check.load(x, "0:a>b,b>c");
            Oracle oracle = EdgesOfOrders.oracleOf(x);
            for (int rounds = 0; rounds <= 60; rounds++) {
                dueStrengths(check, x, rounds, oracle.strengths(rounds));
                check.dueTrue("another round changes it",
                        rounds == 0 || x.strength(0, rounds) != x.strength(0, rounds - 1));
            }
            check.dueDouble("one round again", x.strength(0, 1), 2.0);
        });
    }

    private static void strengthRefused(Check check) {
        check.edge(27, "Throws `IndexOutOfBoundsException` if the sample does not exist", x -> {
            check.dueBeyond(x, "of 3", INDEX, 0, 2, n -> x.strength(n, 0));
            x.begin(8, 1);
            check.dueBeyond(x, "of 8", INDEX, 0, 7, n -> x.strength(n, 60));
            x.begin(2, 1);
            check.dueBeyond(x, "of 2", INDEX, 0, 1, n -> x.strength(n, 1));
        });
        check.edge(27, "Throws `IllegalArgumentException` if rounds is not 0 to 60", x -> {
            check.dueBeyond(x, "strength", ARGUMENT, 0, 60, n -> x.strength(0, n));
        });
    }

    private static void misfit(Check check) {
        String sentence = "Returns how far the strengths are from the answers: the sum, over all "
                + "samples in ascending order, of the square of (w(i) minus the expected wins of i), "
                + "where the expected wins are the sum, over all other samples j in ascending order "
                + "with n(i, j) greater than 0 and strength(i) + strength(j) greater than 0.0, of "
                + "n(i, j) * strength(i) / (strength(i) + strength(j)), computed from left to right.";
        check.edge(28, sentence, x -> {
            check.dueDouble("nothing there, no round", x.misfit(0), 0.0);
            check.dueDouble("nothing there, 60 rounds", x.misfit(60), 0.0);
        });
        check.edge(28, sentence, x -> {
            Check.load(x, "0:a>b,a>b,b=c");
            // w is 2, 0.5 and 0.5; with strengths of 1 the expected wins are 1, 1.5 and 0.5.
            check.dueDouble("no round", x.misfit(0), 1.0 + 1.0 + 0.0);
        });
        check.edge(28, sentence, x -> {
            Check.load(x, "0:a>b,b>c");
            double a = 1.0 - 1 * 2.0 / 3.0;
            double b = 1.0 - (1 * 1.0 / 3.0 + 1 * 1.0 / 1.0);
            check.dueDouble("strengths 2, 1 and 0.0", x.misfit(1), a * a + b * b + 0.0);
        });
        check.edge(28, sentence, x -> {
            // Both weak samples keep a strength above 0.0, and so their tie is expected to count.
            Check.repeat(x, 20, 0, 1, 1);
            Check.repeat(x, 20, 0, 2, 1);
            x.compare(0, 1, 2, 0);
            double b = x.strength(1, 60);
            double c = x.strength(2, 60);
            check.dueTrue("both are weak", b > 0.0 && c > 0.0 && b + c < 0.01);
            check.dueDouble("two weak samples", x.misfit(60),
                    EdgesOfOrders.oracleOf(x).misfit(60));
        });
    }

    private static void misfitOfEdges(Check check) {
        check.edge(28, "Returns the sum.", x -> {
            x.begin(2, 1);
            Check.repeat(x, 48, 0, 1, 1);
            check.dueDouble("the greatest of two", x.misfit(0), 2.0 * 24 * 24);
            check.dueDouble("the least", x.misfit(1), 0.0);
        });
        check.edge(28, "`rounds`: the number of rounds, 0 to 60", x -> {
            Check.load(x, "0:a>b,b>c;1:c>a,a>b");
            Oracle oracle = EdgesOfOrders.oracleOf(x);
            for (int rounds = 0; rounds <= 60; rounds++) {
                check.dueDouble("misfit(" + rounds + ")", x.misfit(rounds), oracle.misfit(rounds));
            }
            check.dueTrue("the rounds differ", x.misfit(0) > x.misfit(1));
        });
    }

    private static void misfitRefused(Check check) {
        check.edge(28, "Throws `IllegalArgumentException` if rounds is not 0 to 60", x -> {
            x.compare(0, 0, 1, 1);
            check.dueBeyond(x, "misfit", ARGUMENT, 0, 60, n -> x.misfit(n));
        });
    }
}
