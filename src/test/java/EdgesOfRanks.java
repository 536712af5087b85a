/** Sentences of promise 17: sample, with points, ranks, dominance and layers. */
final class EdgesOfRanks {
    private static final Class<?> INDEX = IndexOutOfBoundsException.class;
    private static final Class<?> ARGUMENT = IllegalArgumentException.class;

    private EdgesOfRanks() { }

    static void run(Check check) {
        points(check);
        ranks(check);
        stableRanks(check);
        beats(check);
        dominance(check);
        topSets(check);
        layers(check);
        sample(check);
        sampleRefused(check);
    }

    /** Sample i wins over each sample behind it. */
    static void winDownwards(ListeningTrials x) {
        for (int i = 0; i < x.count(0); i++) {
            for (int j = i + 1; j < x.count(0); j++) {
                x.compare(0, i, j, 1);
            }
        }
    }

    private static void dueProperty(Check check, ListeningTrials x, int what, int... want) {
        check.dueRow("sample(.., " + what + ")", Check.propertiesOf(x, what), want);
    }

    private static void points(Check check) {
        check.edge(17, "The points of a sample are the sum, over all comparisons in which it "
                + "occurs, of twice the weight of the listener if it was preferred, once the weight "
                + "if there was a tie, and 0 otherwise.", x -> {
            dueProperty(check, x, 0, 0, 0, 0);
            x.setWeight(0, 3);
            x.setWeight(1, 0);
            Check.load(x, "0:a>b,c>a,b=c;1:b>a,c=a");
            dueProperty(check, x, 0, 6, 3, 9);
            x.begin(2, 1);
            x.setWeight(0, 9);
            Check.repeat(x, 48, 0, 1, 2);
            dueProperty(check, x, 0, 0, 864);
            x.begin(2, 1);
            x.setWeight(0, 9);
            Check.repeat(x, 48, 0, 1, 0);
            dueProperty(check, x, 0, 432, 432);
        });
    }

    private static void ranks(Check check) {
        check.edge(17, "Its rank is 1 plus the number of samples with more points.", x -> {
            dueProperty(check, x, 1, 1, 1, 1);
            x.begin(8, 1);
            winDownwards(x);
            dueProperty(check, x, 1, 1, 2, 3, 4, 5, 6, 7, 8);
            x.begin(4, 1);
            Check.load(x, "0:a>d,b>d,c=d");
            dueProperty(check, x, 0, 2, 2, 1, 1);
            dueProperty(check, x, 1, 1, 1, 3, 3);
        });
    }

    private static void stableRanks(Check check) {
        String sentence = "Its rank is stable if it stays the same whenever any one comparison alone "
                + "is left out.";
        check.edge(17, sentence, x -> {
            dueProperty(check, x, 2, 1, 1, 1);
            x.compare(0, 0, 1, 1);
            dueProperty(check, x, 2, 1, 0, 0);
            x.compare(0, 0, 1, 1);
            dueProperty(check, x, 2, 1, 1, 1);
            x.setWeight(0, 0);
            dueProperty(check, x, 2, 1, 1, 1);
        });
        check.edge(17, sentence, x -> {
            x.begin(2, 2);
            x.setWeight(1, 9);
            x.compare(1, 1, 0, 1);
            Check.repeat(x, 8, 0, 1, 1);
            dueProperty(check, x, 0, 16, 18);
            dueProperty(check, x, 2, 0, 0);
            x.remove(0);
            dueProperty(check, x, 2, 1, 1);
            x.compare(1, 1, 0, 1);
            dueProperty(check, x, 2, 0, 0);
        });
        check.edge(17, sentence, x -> {
            x.begin(2, 2);
            x.setWeight(1, 9);
            Check.repeat(x, 28, 0, 1, 0);
            Check.repeat(x, 19, 0, 1, 1);
            x.compare(1, 1, 0, 0);
            dueProperty(check, x, 2, 1, 1);
            x.remove(47);
            x.compare(1, 0, 1, 2);
            dueProperty(check, x, 2, 1, 1);
            x.setWeight(0, 0);
            dueProperty(check, x, 2, 0, 1);
        });
    }

    private static void beats(Check check) {
        check.edge(17, "Sample i beats sample j if its margin is greater than 0.", x -> {
            dueProperty(check, x, 3, 0, 0, 0);
            x.compare(0, 0, 1, 1);
            dueProperty(check, x, 3, 1, -1, 0);
            x.compare(1, 1, 0, 1);
            dueProperty(check, x, 3, 0, 0, 0);
            x.setWeight(1, 0);
            dueProperty(check, x, 3, 1, -1, 0);
            x.setWeight(1, 2);
            dueProperty(check, x, 3, -1, 1, 0);
        });
    }

    private static void dominance(Check check) {
        check.edge(17, "The dominance of a sample is the number of samples that it beats, minus the "
                + "number of samples that beat it.", x -> {
            x.begin(8, 1);
            winDownwards(x);
            dueProperty(check, x, 3, 7, 5, 3, 1, -1, -3, -5, -7);
            x.begin(3, 1);
            Check.load(x, "0:a>b,b>c,c>a");
            dueProperty(check, x, 3, 0, 0, 0);
        });
    }

    private static void topSets(Check check) {
        check.edge(19, "The top set of some samples is the smallest set, with at least one of them, "
                + "each sample of which beats all samples of them that are not in the set.", x -> {
            check.due("nobody beats: all", x.summary(3), 7);
            Check.load(x, "0:b>a");
            check.due("b does not beat c", x.summary(3), 7);
            Check.load(x, "0:b>c");
            check.due("b alone", x.summary(3), 2);
            Check.load(x, "0:c>b");
            check.due("b and c are even, c and a too", x.summary(3), 7);
            Check.load(x, "0:c>a");
            check.due("b and c", x.summary(3), 6);
        });
        check.edge(19, "(There is exactly one such set.)", x -> {
            x.begin(8, 1);
            Check.load(x, "0:h>a,h>b,h>c,h>d,h>e,h>f,h>g");
            check.due("the last sample alone", x.summary(3), 128);
            x.begin(8, 1);
            check.due("all samples", x.summary(3), 255);
            winDownwards(x);
            check.due("the first sample alone", x.summary(3), 1);
        });
        check.edge(17, "Layer 0 is the top set of all samples.", x -> {
            x.begin(4, 1);
            Check.load(x, "0:d>b,d>a,c>a,c>b,c=d");
            dueProperty(check, x, 4, 1, 1, 0, 0);
            check.due("the top set", x.summary(3), 12);
        });
    }

    private static void layers(Check check) {
        check.edge(17, "Layer 1 is the top set of the samples that are not in layer 0, and so on.",
                x -> {
            x.begin(8, 1);
            dueProperty(check, x, 4, 0, 0, 0, 0, 0, 0, 0, 0);
            winDownwards(x);
            dueProperty(check, x, 4, 0, 1, 2, 3, 4, 5, 6, 7);
            x.compare(0, 7, 6, 1);
            dueProperty(check, x, 4, 0, 1, 2, 3, 4, 5, 6, 6);
            x.compare(0, 6, 5, 1);
            dueProperty(check, x, 4, 0, 1, 2, 3, 4, 5, 5, 5);
            Check.load(x, "0:h>a,h>a");
            dueProperty(check, x, 4, 0, 0, 0, 0, 0, 0, 0, 0);
        });
    }

    private static void sample(Check check) {
        check.edge(17, "Returns a property of a sample.", x -> {
            Check.load(x, "0:c>a,c>a,a=b");
            int[][] want = {{1, 1, 4}, {2, 2, 1}, {1, 1, 1}, {-1, 0, 1}, {0, 0, 0}, {2, 0, 1}};
            for (int what = 0; what <= 5; what++) {
                dueProperty(check, x, what, want[what]);
            }
        });
        check.edge(17, "`sample`: sample number", x -> {
            x.begin(8, 1);
            x.compare(0, 7, 0, 1);
            check.due("the first one", x.sample(0, 3), -1);
            check.due("the last one", x.sample(7, 3), 1);
        });
        check.edge(17, "`what`: 0: its points; 1: its rank; 2: 1 if its rank is stable, else 0; 3: "
                + "its dominance; 4: its layer; 5: its index in the best order, from 0", x -> {
            x.begin(8, 1);
            winDownwards(x);
            int[][] want = {{14, 12, 10, 8, 6, 4, 2, 0}, {1, 2, 3, 4, 5, 6, 7, 8},
                {1, 0, 0, 0, 0, 0, 0, 0}, {7, 5, 3, 1, -1, -3, -5, -7}, {0, 1, 2, 3, 4, 5, 6, 7},
                {0, 1, 2, 3, 4, 5, 6, 7}};
            for (int what = 0; what <= 5; what++) {
                dueProperty(check, x, what, want[what]);
            }
        });
        check.edge(17, "Returns the property.", x -> {
            dueProperty(check, x, 0, 0, 0, 0);
            dueProperty(check, x, 1, 1, 1, 1);
            dueProperty(check, x, 2, 1, 1, 1);
            dueProperty(check, x, 3, 0, 0, 0);
            dueProperty(check, x, 4, 0, 0, 0);
            dueProperty(check, x, 5, 0, 1, 2);
        });
    }

    private static void sampleRefused(Check check) {
        check.edge(17, "Throws `IndexOutOfBoundsException` if the sample does not exist", x -> {
            for (int what = 0; what <= 5; what++) {
                int asked = what;
                check.dueBeyond(x, "of 3", INDEX, 0, 2, n -> x.sample(n, asked));
            }
            x.begin(8, 1);
            check.dueBeyond(x, "of 8", INDEX, 0, 7, n -> x.sample(n, 0));
            x.begin(2, 1);
            check.dueBeyond(x, "of 2", INDEX, 0, 1, n -> x.sample(n, 0));
        });
        check.edge(17, "Throws `IllegalArgumentException` if what is not 0 to 5", x -> {
            check.dueTaken("sample", 0, 5, n -> x.sample(2, n));
            check.dueBeyond(x, "sample", ARGUMENT, 0, 5, n -> x.sample(2, n));
        });
    }
}
