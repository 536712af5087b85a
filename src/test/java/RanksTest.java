/** Promises 17 to 20: sample, order, summary, without. */
public final class RanksTest {
    private static final Check CHECK = new Check("RanksTest");

    public static void main(String[] args) {
        nothingAnswered();
        pointsAndRanks();
        stableRanks();
        dominance();
        layers();
        layersOfTies();
        ring();
        bestOrder();
        manyBestOrders();
        without();
        wrongArguments();
        CHECK.end();
    }

    private static void dueProperty(ListeningTrials x, int what, int... want) {
        CHECK.dueRow("sample(.., " + what + ")", Check.propertiesOf(x, what), want);
    }

    private static void nothingAnswered() {
        ListeningTrials x = new ListeningTrials();
        dueProperty(x, 0, 0, 0, 0);
        dueProperty(x, 1, 1, 1, 1);
        dueProperty(x, 2, 1, 1, 1);
        dueProperty(x, 3, 0, 0, 0);
        dueProperty(x, 4, 0, 0, 0);
        dueProperty(x, 5, 0, 1, 2);
        CHECK.dueRow("summary", Check.summaryOf(x), 0, 6, 1, 7, 0, 3);
    }

    private static void pointsAndRanks() {
        ListeningTrials x = new ListeningTrials();
        x.begin(4, 2);
        x.setWeight(1, 3);
        Check.load(x, "0:a>b,b=c;1:c>a,d=a");
        dueProperty(x, 0, 5, 1, 7, 3);
        dueProperty(x, 1, 2, 4, 1, 3);
        x.setWeight(1, 0);
        dueProperty(x, 0, 2, 1, 1, 0);
        dueProperty(x, 1, 1, 2, 2, 4);
    }

    private static void stableRanks() {
        ListeningTrials x = new ListeningTrials();
        Check.load(x, "0:a>b,a>b,a>b,a>b,b>c,c=b");
        dueProperty(x, 0, 8, 3, 1);
        dueProperty(x, 2, 1, 1, 0);
        CHECK.due("stable samples", x.summary(5), 2);
        x.compare(0, 1, 2, 1);
        dueProperty(x, 0, 8, 5, 1);
        dueProperty(x, 2, 1, 1, 1);
        CHECK.due("stable samples then", x.summary(5), 3);
        x.setWeight(0, 0);
        dueProperty(x, 2, 1, 1, 1);
    }

    private static void dominance() {
        ListeningTrials x = new ListeningTrials();
        x.begin(4, 2);
        Check.load(x, "0:a>b,a>c,a>d,b>c,c>b,d>b");
        dueProperty(x, 3, 3, -2, -1, 0);
        x.setWeight(0, 0);
        dueProperty(x, 3, 0, 0, 0, 0);
    }

    private static void layers() {
        ListeningTrials x = new ListeningTrials();
        x.begin(5, 1);
        Check.load(x, "0:e>a,e>b,e>c,e>d,a>b,b>c,c>a,a>d,b>d");
        x.compare(0, 2, 3, 1);
        dueProperty(x, 4, 1, 1, 1, 2, 0);
        CHECK.due("layers", x.summary(2), 3);
        CHECK.due("top set", x.summary(3), 16);
        CHECK.due("rings of all", x.summary(4), 1);
        x.compare(0, 3, 2, 1);
        dueProperty(x, 4, 1, 1, 1, 1, 0);
        CHECK.due("layers with a tie", x.summary(2), 2);
    }

    /** A set of samples is no top set while one of them only ties with one outside. */
    private static void layersOfTies() {
        ListeningTrials x = new ListeningTrials();
        x.begin(4, 1);
        Check.load(x, "0:a>b,a>c,b>c,d>c,b>d");
        dueProperty(x, 4, 0, 0, 1, 0);
        CHECK.due("top set", x.summary(3), 11);
        x.compare(0, 0, 3, 1);
        dueProperty(x, 4, 0, 1, 3, 2);
        CHECK.due("layers", x.summary(2), 4);
        CHECK.due("top set of one", x.summary(3), 1);
    }

    private static void ring() {
        ListeningTrials x = new ListeningTrials();
        Check.load(x, "0:b>a,c>b,a>c");
        dueProperty(x, 1, 1, 1, 1);
        dueProperty(x, 2, 0, 0, 0);
        dueProperty(x, 4, 0, 0, 0);
        CHECK.dueRow("summary", Check.summaryOf(x), 1, 3, 1, 7, 1, 0);
        CHECK.dueRow("order", Check.orderOf(x), 0, 2, 1);
        dueProperty(x, 5, 0, 2, 1);
        x.setWeight(0, 0);
        CHECK.dueRow("summary without weight", Check.summaryOf(x), 0, 6, 1, 7, 0, 3);
    }

    /** The weakest link of the ring a, b, c is broken: the one of c over a. */
    private static void bestOrder() {
        ListeningTrials x = new ListeningTrials();
        x.begin(4, 3);
        x.setWeight(1, 4);
        x.setWeight(2, 6);
        Check.load(x, "1:a>b;2:b>c;0:c>a,c>a;2:d>a");
        CHECK.dueRow("order", Check.orderOf(x), 3, 0, 1, 2);
        dueProperty(x, 5, 1, 2, 3, 0);
        CHECK.due("disagreement", x.summary(0), 2);
        CHECK.due("orders with it", x.summary(1), 1);
        CHECK.due("order(3)", x.order(3), 2);
        CHECK.dueIndex(x, "order(4)", () -> x.order(4));
        CHECK.dueIndex(x, "order(-1)", () -> x.order(-1));
    }

    private static void manyBestOrders() {
        ListeningTrials x = new ListeningTrials();
        x.begin(8, 1);
        CHECK.due("all orders of eight", x.summary(1), 40320);
        x.compare(0, 7, 0, 1);
        CHECK.due("half of them", x.summary(1), 20160);
        CHECK.dueRow("the smallest of them", Check.orderOf(x), 1, 2, 3, 4, 5, 6, 7, 0);
        for (int i = 7; i > 0; i--) {
            x.compare(0, i - 1, i, 2);
        }
        CHECK.due("one is left", x.summary(1), 1);
        CHECK.dueRow("the order upside down", Check.orderOf(x), 7, 6, 5, 4, 3, 2, 1, 0);
        CHECK.due("its disagreement", x.summary(0), 0);
    }

    private static void without() {
        ListeningTrials x = new ListeningTrials();
        x.setWeight(0, 2);
        Check.load(x, "0:a>b,b>c,c>a;1:c>b,b>a");
        long digest = x.digest();
        for (int listener = 0; listener < 2; listener++) {
            ListeningTrials y = new ListeningTrials();
            y.setWeight(0, 2);
            Check.load(y, "0:a>b,b>c,c>a;1:c>b,b>a");
            y.setWeight(listener, 0);
            for (int what = 0; what <= 5; what++) {
                CHECK.due("without(.., NONE, ..)", x.without(listener, -1, what), y.summary(what));
                for (int i = 0; i < 3; i++) {
                    CHECK.due("without(.., sample, ..)", x.without(listener, i, what),
                            y.sample(i, what));
                }
            }
        }
        CHECK.due("points of c without 0", x.without(0, 2, 0), 2);
        CHECK.due("layer of a without 0", x.without(0, 0, 4), 0);
        CHECK.due("rings without 0", x.without(0, -1, 4), 0);
        CHECK.due("rings without 1", x.without(1, -1, 4), 1);
        CHECK.due("nothing is changed", x.digest(), digest);
        CHECK.due("the weight", x.setWeight(0, 2), 2);
    }

    private static void wrongArguments() {
        ListeningTrials x = new ListeningTrials();
        x.compare(0, 0, 1, 1);
        CHECK.dueIndex(x, "sample(3, 0)", () -> x.sample(3, 0));
        CHECK.dueIndex(x, "sample(-1, 6)", () -> x.sample(-1, 6));
        CHECK.dueArgument(x, "sample(0, 6)", () -> x.sample(0, 6));
        CHECK.dueArgument(x, "sample(0, -1)", () -> x.sample(0, -1));
        CHECK.dueIndex(x, "order(3)", () -> x.order(3));
        CHECK.dueArgument(x, "summary(6)", () -> x.summary(6));
        CHECK.dueArgument(x, "summary(-1)", () -> x.summary(-1));
        CHECK.dueIndex(x, "without(2, 0, 0)", () -> x.without(2, 0, 0));
        CHECK.dueIndex(x, "without(-1, -1, 6)", () -> x.without(-1, -1, 6));
        CHECK.dueIndex(x, "without(0, 3, 6)", () -> x.without(0, 3, 6));
        CHECK.dueIndex(x, "without(0, -2, 0)", () -> x.without(0, -2, 0));
        CHECK.dueArgument(x, "without(0, -1, 6)", () -> x.without(0, -1, 6));
        CHECK.dueArgument(x, "without(0, 0, -1)", () -> x.without(0, 0, -1));
    }
}
