import java.util.ArrayList;
import java.util.List;

/** Promise 29: digest. */
public final class DigestTest {
    private static final Check CHECK = new Check("DigestTest");
    private static final long WHOLE = 1L << 48;

    public static void main(String[] args) {
        newObject();
        smallCase();
        everyPartCounts();
        roundsAndLevel();
        CHECK.end();
    }

    private static long folded(long... values) {
        long hash = 1889;
        for (long value : values) {
            hash = 31 * hash + value;
        }
        return hash;
    }

    private static void newObject() {
        CHECK.due("digest of a new object", new ListeningTrials().digest(), folded(
                3, 2, 0, 0, 0, 0, 0, -1,
                1, 0, 1, 0,
                0, 1, 1, 0, 0, 0, 1000000,
                0, 1, 1, 0, 0, 1, 1000000,
                0, 1, 1, 0, 0, 2, 1000000,
                0, 6, 1, 7, 0, 3,
                0, WHOLE, 0, WHOLE, 0, WHOLE,
                WHOLE, 0, 0));
    }

    private static void smallCase() {
        ListeningTrials x = new ListeningTrials();
        x.begin(2, 1);
        x.setWeight(0, 3);
        x.plan(0, 2, 1);
        int[] trials = Check.trialsOf(x, 2);
        CHECK.dueRow("trials", trials, 0, 1, 0, 1);
        x.answer(1);
        Check.load(x, "0:b<a,a=b,b>a,a>b,a>b,a>b,a>b,a>b");
        Check.append(x, "0~");
        // Wins are 7 and 1, with one tie: w is 7.5 and 1.5 of 9, the strengths 5/3 and 1/3.
        CHECK.due("digest of two samples", x.digest(), folded(
                2, 1, 9, 1, 7, 1, 2, 0,
                3, 0,
                0, 0, 1, 1, 0, 1, 0, 2, 0, 0, 1, 0, 0, 1, 0, 1, 0, 0, 1, 1,
                0, 0, 1, 1, 0, 0, 1, 1, 0, 0, 1, 1, 0, 0, 1, 1,
                0, 1, 0, 1,
                45, 1, 1, 1, 0, 0, 1666666,
                9, 2, 1, -1, 1, 1, 333333,
                0, 1, 2, 1, 0, 2,
                18, WHOLE / 256 * 2 * 9,
                WHOLE / 256 * 2 * 9, 0,
                2, '0', '~'));
    }

    /** The digest put together from what the other methods answer. */
    private static long composed(ListeningTrials x, String buffer, int... weights) {
        List<Long> values = new ArrayList<>();
        addAll(values, Check.countsOf(x));
        for (int listener = 0; listener < weights.length; listener++) {
            addAll(values, weights[listener], x.rings(listener));
        }
        for (int k = 0; k < x.count(2); k++) {
            addAll(values, Check.comparisonOf(x, k));
        }
        for (int i = 0; i < x.count(0); i++) {
            for (int what = 0; what <= 5; what++) {
                values.add((long) x.sample(i, what));
            }
            values.add((long) Math.floor(x.strength(i, 8) * 1000000.0));
        }
        addAll(values, Check.summaryOf(x));
        for (int i = 0; i < x.count(0); i++) {
            for (int j = i + 1; j < x.count(0); j++) {
                values.add((long) x.result(i, j, 2));
                values.add(x.chance(i, j));
            }
        }
        values.add(x.placeChance());
        values.add((long) x.proved(50, -1));
        values.add((long) buffer.length());
        for (char code : buffer.toCharArray()) {
            values.add((long) code);
        }
        return folded(values.stream().mapToLong(Long::longValue).toArray());
    }

    private static void addAll(List<Long> values, int... added) {
        for (int value : added) {
            values.add((long) value);
        }
    }

    /** The strengths of a chain differ in each round; the pairs are proved just at or above 50. */
    private static void roundsAndLevel() {
        ListeningTrials x = new ListeningTrials();
        x.setWeight(1, 4);
        Check.load(x, "0:a>b,b>c;1:c>a,a>b");
        Check.append(x, "1:b<");
        CHECK.dueTrue("strengths differ", x.strength(0, 8) != x.strength(0, 9)
                && x.strength(0, 8) != x.strength(0, 7));
        CHECK.due("digest of a chain", x.digest(), composed(x, "1:b<", 1, 4));
        int[][] wins = {{22, 10, 0, 51}, {13, 4, 1, 49}};
        for (int[] row : wins) {
            ListeningTrials y = new ListeningTrials();
            Check.repeat(y, row[0], 0, 1, 1);
            Check.repeat(y, row[1], 0, 1, 2);
            CHECK.due("proved at 50", y.proved(50, -1), row[2]);
            CHECK.due("proved beside it", y.proved(row[3], -1), 1 - row[2]);
            CHECK.due("digest with proved pairs", y.digest(), composed(y, "", 1, 1));
        }
    }

    private static void everyPartCounts() {
        ListeningTrials x = new ListeningTrials();
        long[] seen = new long[6];
        seen[0] = x.digest();
        x.setWeight(1, 2);
        seen[1] = x.digest();
        x.append('0');
        seen[2] = x.digest();
        x.plan(0, 1, 1);
        seen[3] = x.digest();
        x.compare(0, 0, 1, 0);
        seen[4] = x.digest();
        x.remove(0);
        seen[5] = x.digest();
        for (int k = 0; k < seen.length; k++) {
            for (int other = 0; other < k; other++) {
                CHECK.dueTrue("digests " + k + ", " + other + " differ", seen[k] != seen[other]);
            }
        }
        CHECK.due("digest changes nothing", x.digest(), seen[5]);
    }
}
