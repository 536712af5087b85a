/** Promises 27 and 28: strength, misfit. */
public final class StrengthsTest {
    private static final Check CHECK = new Check("StrengthsTest");

    public static void main(String[] args) {
        nothingAnswered();
        twoSamples();
        chain();
        oneWithoutAnswers();
        weightsDoNotMatter();
        wrongArguments();
        CHECK.end();
    }

    private static void dueStrengths(ListeningTrials x, int rounds, double... want) {
        for (int i = 0; i < want.length; i++) {
            CHECK.dueDouble("strength(" + i + ", " + rounds + ")", x.strength(i, rounds), want[i]);
        }
    }

    private static void nothingAnswered() {
        ListeningTrials x = new ListeningTrials();
        dueStrengths(x, 0, 1.0, 1.0, 1.0);
        dueStrengths(x, 60, 1.0, 1.0, 1.0);
        CHECK.dueDouble("misfit(60)", x.misfit(60), 0.0);
    }

    private static void twoSamples() {
        ListeningTrials x = new ListeningTrials();
        x.begin(2, 1);
        Check.load(x, "0:a>b,b<a,a=b,a=b");
        dueStrengths(x, 0, 1.0, 1.0);
        dueStrengths(x, 1, 1.5, 0.5);
        dueStrengths(x, 2, 1.5, 0.5);
        CHECK.dueDouble("misfit(0)", x.misfit(0), 2.0);
        CHECK.dueDouble("misfit(1)", x.misfit(1), 0.0);
    }

    /** Sample a wins over b, and b over c; each step is the document's formula, written out. */
    private static void chain() {
        ListeningTrials x = new ListeningTrials();
        Check.load(x, "0:a>b,b>c");
        // Round 1: s is 1/2, 1/2 + 1/2, 1/2, so the new values are 2, 1, 0.
        dueStrengths(x, 1, 2.0 * (3 / 3.0), 1.0 * (3 / 3.0), 0.0);
        // Round 2: s is 1/3, 1/3 + 1/1, 1/1.
        double a = 1.0 / (1 / 3.0);
        double b = 1.0 / (0.0 + 1 / 3.0 + 1 / 1.0);
        double t = 0.0 + a + b + 0.0;
        dueStrengths(x, 2, a * (3 / t), b * (3 / t), 0.0);
        CHECK.dueDouble("misfit(0)", x.misfit(0), 0.25 + 0.0 + 0.25);
        double first = 1.0 - 1 * 2.0 / 3.0;
        double second = 1.0 - (0.0 + 1 * 1.0 / 3.0 + 1 * 1.0 / 1.0);
        CHECK.dueDouble("misfit(1)", x.misfit(1), 0.0 + first * first + second * second + 0.0);
    }

    private static void oneWithoutAnswers() {
        ListeningTrials x = new ListeningTrials();
        x.begin(4, 1);
        Check.load(x, "0:a>c,a>d");
        // New values: 2 / (1/2 + 1/2), 1 (kept), 0, 0; their sum is 3.
        double factor = 4 / 3.0;
        dueStrengths(x, 1, 2.0 * factor, 1.0 * factor, 0.0, 0.0);
        double a = 2.0 * factor;
        double b = 1.0 * factor;
        double s = 0.0 + 1 / (a + 0.0) + 1 / (a + 0.0);
        double t = 0.0 + 2.0 / s + b + 0.0 + 0.0;
        dueStrengths(x, 2, 2.0 / s * (4 / t), b * (4 / t), 0.0, 0.0);
        CHECK.dueDouble("misfit(1)", x.misfit(1), 0.0);
    }

    private static void weightsDoNotMatter() {
        ListeningTrials x = new ListeningTrials();
        x.begin(2, 2);
        x.setWeight(0, 0);
        x.setWeight(1, 9);
        Check.load(x, "0:a>b,a>b,a>b;1:b>a");
        dueStrengths(x, 60, 1.5, 0.5);
    }

    private static void wrongArguments() {
        ListeningTrials x = new ListeningTrials();
        CHECK.dueIndex(x, "strength(3, 0)", () -> x.strength(3, 0));
        CHECK.dueIndex(x, "strength(-1, 61)", () -> x.strength(-1, 61));
        CHECK.dueArgument(x, "strength(0, 61)", () -> x.strength(0, 61));
        CHECK.dueArgument(x, "strength(0, -1)", () -> x.strength(0, -1));
        CHECK.dueArgument(x, "misfit(61)", () -> x.misfit(61));
        CHECK.dueArgument(x, "misfit(-1)", () -> x.misfit(-1));
    }
}
