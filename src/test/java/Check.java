import java.util.Arrays;

/** Compares answers with those that are due, prints the wrong ones, and ends with 1 if any was. */
final class Check {
    /** A call whose exception, not whose answer, is looked at. */
    interface Call {
        void run();
    }

    private final String test;
    private int checked = 0;
    private int wrong = 0;

    Check(String test) {
        this.test = test;
    }

    void due(String call, long got, long want) {
        checked++;
        if (got != want) {
            tell(call + " answered " + got + ", due is " + want);
        }
    }

    void dueDouble(String call, double got, double want) {
        checked++;
        if (Double.doubleToLongBits(got) != Double.doubleToLongBits(want)) {
            tell(call + " answered " + got + ", due is " + want);
        }
    }

    void dueRow(String call, int[] got, int... want) {
        checked++;
        if (!Arrays.equals(got, want)) {
            tell(call + " answered " + Arrays.toString(got) + ", due is " + Arrays.toString(want));
        }
    }

    void dueTrue(String claim, boolean holds) {
        checked++;
        if (!holds) {
            tell(claim);
        }
    }

    /** The call must throw just this class, and leave the object's digest as it was. */
    void dueThrow(ListeningTrials x, String call, Class<?> kind, Call run) {
        checked++;
        long before = x.digest();
        Class<?> thrown = null;
        try {
            run.run();
        } catch (RuntimeException e) {
            thrown = e.getClass();
        }
        if (thrown != kind) {
            tell(call + " threw " + thrown + ", due is " + kind);
        }
        if (x.digest() != before) {
            tell(call + " threw but changed the state");
        }
    }

    void dueState(ListeningTrials x, String call, Call run) {
        dueThrow(x, call, IllegalStateException.class, run);
    }

    void dueArgument(ListeningTrials x, String call, Call run) {
        dueThrow(x, call, IllegalArgumentException.class, run);
    }

    void dueIndex(ListeningTrials x, String call, Call run) {
        dueThrow(x, call, IndexOutOfBoundsException.class, run);
    }

    private void tell(String fault) {
        wrong++;
        System.out.println(test + ": " + fault);
    }

    void end() {
        System.out.println(test + ": " + checked + " checks, " + wrong + " wrong");
        if (wrong != 0) {
            System.exit(1);
        }
    }

    static void append(ListeningTrials x, String text) {
        for (int k = 0; k < text.length(); k++) {
            x.append(text.charAt(k));
        }
    }

    /** Loads a text; the buffer must be empty before. */
    static int load(ListeningTrials x, String text) {
        append(x, text);
        return x.load();
    }

    /** Adds the same comparison several times. */
    static void repeat(ListeningTrials x, int times, int first, int second, int answer) {
        for (int k = 0; k < times; k++) {
            x.compare(0, first, second, answer);
        }
    }

    static int[] orderOf(ListeningTrials x) {
        int[] order = new int[x.count(0)];
        for (int k = 0; k < order.length; k++) {
            order[k] = x.order(k);
        }
        return order;
    }

    static int[] propertiesOf(ListeningTrials x, int what) {
        int[] row = new int[x.count(0)];
        for (int k = 0; k < row.length; k++) {
            row[k] = x.sample(k, what);
        }
        return row;
    }

    static int[] summaryOf(ListeningTrials x) {
        int[] row = new int[6];
        for (int k = 0; k < row.length; k++) {
            row[k] = x.summary(k);
        }
        return row;
    }

    static int[] countsOf(ListeningTrials x) {
        int[] row = new int[8];
        for (int k = 0; k < row.length; k++) {
            row[k] = x.count(k);
        }
        return row;
    }

    static int[] comparisonOf(ListeningTrials x, int number) {
        int[] row = new int[4];
        for (int k = 0; k < row.length; k++) {
            row[k] = x.comparison(number, k);
        }
        return row;
    }

    /** All trials of the plan, first and second sample in turn. */
    static int[] trialsOf(ListeningTrials x, int number) {
        int[] row = new int[2 * number];
        for (int k = 0; k < number; k++) {
            row[2 * k] = x.trial(k, false);
            row[2 * k + 1] = x.trial(k, true);
        }
        return row;
    }
}
