import java.util.ArrayList;
import java.util.Arrays;
import java.util.List;

/** Compares answers with those that are due, prints the wrong ones, and ends with 1 if any was. */
final class Check {
    /** A call whose exception, not whose answer, is looked at. */
    interface Call {
        void run();
    }

    /** The same with a number that may be refused. */
    interface NumberCall {
        void run(int number);
    }

    /** The test of a sentence, on a new object. */
    interface Test {
        void run(ListeningTrials x);
    }

    private final String test;
    private int checked = 0;
    private int wrong = 0;
    private String standsFor = "";
    private final List<Document.Sentence> tested = new ArrayList<>();

    Check(String test) {
        this.test = test;
    }

    /** A test that stands for one sentence of the document, and must hold at least one check. */
    void edge(int promise, String sentence, Test body) {
        tested.add(new Document.Sentence(promise, sentence));
        standsFor = "promise " + promise + ", \"" + sentence + "\": ";
        int before = checked;
        try {
            body.run(new ListeningTrials());
        } catch (RuntimeException e) {
            tell("the test ended with " + e);
        }
        dueTrue("the test checks nothing", checked > before);
        standsFor = "";
    }

    List<Document.Sentence> tested() {
        return tested;
    }

    void due(String call, long got, long want) {
        checked++;
        if (got != want) {
            tell(call + " answered " + got + ", due is " + want);
        }
    }

    void dueDouble(String call, double got, double want) {
        checked++;
        if (Double.doubleToLongBits(got) != Double.doubleToLongBits(want)) {
            tell(call + " answered " + got + ", due is " + want);
        }
    }

    void dueRow(String call, int[] got, int... want) {
        checked++;
        if (!Arrays.equals(got, want)) {
            tell(call + " answered " + Arrays.toString(got) + ", due is " + Arrays.toString(want));
        }
    }

    void dueTrue(String claim, boolean holds) {
        checked++;
        if (!holds) {
            tell(claim);
        }
    }

    /** The call must throw just this class, and leave the object's digest as it was. */
    void dueThrow(ListeningTrials x, String call, Class<?> kind, Call run) {
        checked++;
        long before = x.digest();
        Class<?> thrown = null;
        try {
            run.run();
        } catch (RuntimeException e) {
            thrown = e.getClass();
        }
        if (thrown != kind) {
            tell(call + " threw " + thrown + ", due is " + kind);
        }
        if (x.digest() != before) {
            tell(call + " threw but changed the state");
        }
    }

    void dueState(ListeningTrials x, String call, Call run) {
        dueThrow(x, call, IllegalStateException.class, run);
    }

    void dueArgument(ListeningTrials x, String call, Call run) {
        dueThrow(x, call, IllegalArgumentException.class, run);
    }

    void dueIndex(ListeningTrials x, String call, Call run) {
        dueThrow(x, call, IndexOutOfBoundsException.class, run);
    }

    /** Refused: the first number beyond each end of the range, and the farthest ones. */
    void dueBeyond(ListeningTrials x, String call, Class<?> kind, int least, int greatest,
            NumberCall run) {
        int[] beyond = {least - 1, greatest + 1, Integer.MIN_VALUE, Integer.MAX_VALUE};
        for (int number : beyond) {
            dueThrow(x, call + " with " + number, kind, () -> run.run(number));
        }
    }

    /** Taken: every number of the range, without an exception. */
    void dueTaken(String call, int least, int greatest, NumberCall run) {
        for (int number = least; number <= greatest; number++) {
            checked++;
            try {
                run.run(number);
            } catch (RuntimeException e) {
                tell(call + " with " + number + " threw " + e.getClass());
            }
        }
    }

    private void tell(String fault) {
        wrong++;
        System.out.println(test + ": " + standsFor + fault);
    }

    void end() {
        System.out.println(test + ": " + checked + " checks, " + wrong + " wrong");
        if (wrong != 0) {
            System.exit(1);
        }
    }

    static void append(ListeningTrials x, String text) {
        for (int k = 0; k < text.length(); k++) {
            x.append(text.charAt(k));
        }
    }

    /** Loads a text; the buffer must be empty before. */
    static int load(ListeningTrials x, String text) {
        append(x, text);
        return x.load();
    }

    /** An object whose limits are all reached but the plan's: 48 comparisons, 12 steps, 60 codes. */
    static ListeningTrials full() {
        ListeningTrials x = new ListeningTrials();
        x.begin(8, 8);
        for (int listener = 0; listener < 8; listener++) {
            x.setWeight(listener, 9 - listener);
        }
        x.plan(7, 2, 2026);
        for (int k = 0; k < 44; k++) {
            x.compare(k % 8, k % 8, (k + 1 + k / 8) % 8, k % 3);
        }
        for (int k = 0; k < 4; k++) {
            x.answer(k % 3);
        }
        append(x, "0:a>b,b>c,c>a;1:d<e,e<f,f<d;2:g=h,h=a;3:a>h,b>g;4:c<f,d<e;5:");
        return x;
    }

    /** Adds the same comparison several times. */
    static void repeat(ListeningTrials x, int times, int first, int second, int answer) {
        for (int k = 0; k < times; k++) {
            x.compare(0, first, second, answer);
        }
    }

    static int[] orderOf(ListeningTrials x) {
        int[] order = new int[x.count(0)];
        for (int k = 0; k < order.length; k++) {
            order[k] = x.order(k);
        }
        return order;
    }

    static int[] propertiesOf(ListeningTrials x, int what) {
        int[] row = new int[x.count(0)];
        for (int k = 0; k < row.length; k++) {
            row[k] = x.sample(k, what);
        }
        return row;
    }

    static int[] summaryOf(ListeningTrials x) {
        int[] row = new int[6];
        for (int k = 0; k < row.length; k++) {
            row[k] = x.summary(k);
        }
        return row;
    }

    static int[] countsOf(ListeningTrials x) {
        int[] row = new int[8];
        for (int k = 0; k < row.length; k++) {
            row[k] = x.count(k);
        }
        return row;
    }

    static int[] comparisonOf(ListeningTrials x, int number) {
        int[] row = new int[4];
        for (int k = 0; k < row.length; k++) {
            row[k] = x.comparison(number, k);
        }
        return row;
    }

    /** All trials of the plan, first and second sample in turn. */
    static int[] trialsOf(ListeningTrials x, int number) {
        int[] row = new int[2 * number];
        for (int k = 0; k < number; k++) {
            row[2 * k] = x.trial(k, false);
            row[2 * k + 1] = x.trial(k, true);
        }
        return row;
    }
}
