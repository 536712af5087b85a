/** Promises 21 to 23: rings, consistency, agreement. */
public final class ListenersTest {
    private static final Check CHECK = new Check("ListenersTest");

    public static void main(String[] args) {
        rings();
        mostRings();
        consistency();
        consistencyOfTwo();
        agreement();
        CHECK.end();
    }

    private static void rings() {
        ListeningTrials x = new ListeningTrials();
        x.begin(4, 2);
        x.setWeight(0, 0);
        CHECK.due("rings of nothing", x.rings(0), 0);
        Check.load(x, "0:a>b,b>c,c>a,a>d;1:a<b,b<c,c<a");
        CHECK.due("rings of 0", x.rings(0), 1);
        CHECK.due("rings of 1", x.rings(1), 1);
        Check.load(x, "0:d>b,c>d");
        CHECK.due("two rings", x.rings(0), 2);
        CHECK.due("rings of all", x.summary(4), 1);
        x.compare(0, 0, 2, 1);
        CHECK.due("rings after an answer against one", x.rings(0), 1);
        x.compare(0, 1, 3, 1);
        CHECK.due("rings after answers against both", x.rings(0), 0);
        CHECK.dueIndex(x, "rings(2)", () -> x.rings(2));
        CHECK.dueIndex(x, "rings(-1)", () -> x.rings(-1));
    }

    /** With each sample ahead of the next ones around a circle there are as many as can be. */
    private static void mostRings() {
        int[] most = {1, 2, 5, 8, 14, 20};
        for (int n = 3; n <= 8; n++) {
            ListeningTrials x = new ListeningTrials();
            x.begin(n, 1);
            for (int i = 0; i < n; i++) {
                for (int d = 1; 2 * d <= n; d++) {
                    if (2 * d < n || i < d) {
                        x.compare(0, i, (i + d) % n, 1);
                    }
                }
            }
            CHECK.due("comparisons of " + n, x.count(2), n * (n - 1) / 2);
            CHECK.due("most rings of " + n, x.rings(0), most[n - 3]);
            CHECK.dueDouble("least consistency of " + n, x.consistency(0), 0.0);
        }
    }

    private static void consistency() {
        ListeningTrials x = new ListeningTrials();
        x.begin(5, 2);
        x.setWeight(0, 0);
        for (int i = 0; i < 5; i++) {
            for (int j = i + 1; j < 5; j++) {
                CHECK.dueState(x, "consistency before " + i + j, () -> x.consistency(0));
                x.compare(0, i, j, 1);
            }
        }
        CHECK.dueDouble("no ring", x.consistency(0), 1.0);
        Check.load(x, "0:c>a,c>a");
        CHECK.dueDouble("one ring of five", x.consistency(0), 1.0 - 1.0 / 5.0);
        Check.load(x, "0:e>a,e>a");
        CHECK.dueDouble("three rings of five", x.consistency(0), 1.0 - 3.0 / 5.0);
        x.compare(0, 0, 4, 1);
        CHECK.dueState(x, "as many of both", () -> x.consistency(0));
        CHECK.dueState(x, "another listener", () -> x.consistency(1));
        CHECK.dueIndex(x, "consistency(2)", () -> x.consistency(2));
        CHECK.dueIndex(x, "consistency(-1)", () -> x.consistency(-1));
    }

    private static void consistencyOfTwo() {
        ListeningTrials x = new ListeningTrials();
        x.begin(2, 1);
        CHECK.dueState(x, "two samples, nothing answered", () -> x.consistency(0));
        x.compare(0, 1, 0, 0);
        CHECK.dueState(x, "two samples, a tie", () -> x.consistency(0));
        x.compare(0, 1, 0, 1);
        CHECK.dueDouble("two samples", x.consistency(0), 1.0);
    }

    private static void agreement() {
        ListeningTrials x = new ListeningTrials();
        x.begin(4, 4);
        CHECK.dueDouble("of nothing", x.agreement(0, 1), 0.0);
        Check.load(x, "0:a>b,a>c,a>d,b=c;1:b<a,c>a,a>d,b>c;2:b>a");
        CHECK.dueDouble("two of three", x.agreement(0, 1), 1.0 / 3.0);
        CHECK.dueDouble("the other way round", x.agreement(1, 0), 1.0 / 3.0);
        CHECK.dueDouble("with itself", x.agreement(0, 0), 1.0);
        CHECK.dueDouble("against", x.agreement(0, 2), -1.0);
        CHECK.dueDouble("with one who said nothing", x.agreement(0, 3), 0.0);
        CHECK.dueDouble("nothing with itself", x.agreement(3, 3), 0.0);
        Check.load(x, "2:c>a;1:a<c;0:a>b");
        CHECK.dueDouble("one with and one against", x.agreement(1, 2), 0.0);
        CHECK.dueIndex(x, "agreement(4, 0)", () -> x.agreement(4, 0));
        CHECK.dueIndex(x, "agreement(0, 4)", () -> x.agreement(0, 4));
        CHECK.dueIndex(x, "agreement(-1, 0)", () -> x.agreement(-1, 0));
        CHECK.dueIndex(x, "agreement(0, -1)", () -> x.agreement(0, -1));
    }
}
