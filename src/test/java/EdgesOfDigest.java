import java.math.BigInteger;

/** Sentences of promise 29: digest. */
final class EdgesOfDigest {
    private static final long WHOLE = 1L << 48;

    /** What a new object puts into the hash. */
    private static final long[] NEW = {
        3, 2, 0, 0, 0, 0, 0, -1,
        1, 0, 1, 0,
        0, 1, 1, 0, 0, 0, 1000000,
        0, 1, 1, 0, 0, 1, 1000000,
        0, 1, 1, 0, 0, 2, 1000000,
        0, 6, 1, 7, 0, 3,
        0, WHOLE, 0, WHOLE, 0, WHOLE,
        WHOLE, 0, 0};

    private static final String VALUES = "The values are: count(0) to count(7); for each listener "
            + "its weight and its rings; for each comparison its properties 0 to 3; for each trial of the plan both "
            + "samples, the first one first; for each sample its properties 0 to 5, and its "
            + "strength after 8 rounds times 1000000.0, rounded down; summary(0) to summary(5); "
            + "for each pair of samples i less than j, ordered by i, then by j: result(i, j, 2), "
            + "and the chance; placeChance; proved(50, NONE); the length of the buffer and each "
            + "of its character codes.";

    private EdgesOfDigest() { }

    static void run(Check check) {
        hash(check);
        values(check);
        levelOfProved(check);
        valuesOfAFullOne(check);
        unchanged(check);
    }

    private static long folded(long start, long... values) {
        long hash = start;
        for (long value : values) {
            hash = 31 * hash + value;
        }
        return hash;
    }

    private static void hash(Check check) {
        check.edge(29, "The hash starts at 1889.", x -> {
            check.due("of a new object", x.digest(), folded(1889, NEW));
        });
        check.edge(29, "For each value v of the following list, in order, the hash becomes 31 * hash "
                + "+ v, in long arithmetic with overflow.", x -> {
            BigInteger exact = BigInteger.valueOf(1889);
            for (long value : NEW) {
                exact = exact.multiply(BigInteger.valueOf(31))
                        .add(BigInteger.valueOf(value));
            }
            check.dueTrue("it is far beyond a long", exact.bitLength() > 64);
            check.due("what is left of it", x.digest(), exact.longValue());
        });
    }

    private static void values(Check check) {
        check.edge(29, VALUES, x -> {
            x.begin(2, 1);
            x.setWeight(0, 0);
            x.plan(0, 2, 4);
            x.answer(2);
            Check.append(x, "!~");
            check.due("of the least one", x.digest(), folded(1889,
                    2, 1, 1, 0, 0, 1, 1, 0,
                    0, 0,
                    0, 1, 0, 2,
                    1, 0, 0, 1,
                    0, 1, 1, 0, 0, 0, 2000000,
                    0, 1, 1, 0, 0, 1, 0,
                    0, 2, 1, 3, 0, 2,
                    0, WHOLE,
                    WHOLE, 0,
                    2, 33, 126));
        });
        check.edge(29, VALUES, x -> {
            x.setWeight(1, 9);
            Check.load(x, "1:a>b,b>c,c>a");
            Check.repeat(x, 7, 0, 1, 1);
            double scaled = x.strength(0, 8) * 1000000.0;
            check.dueTrue("a strength that is rounded", scaled != (long) scaled);
            check.due("of three samples", x.digest(), folded(1889,
                    3, 2, 10, 0, 10, 0, 8, -1,
                    1, 0, 9, 1,
                    1, 0, 1, 1, 1, 1, 2, 1, 1, 2, 0, 1,
                    0, 0, 1, 1, 0, 0, 1, 1, 0, 0, 1, 1, 0, 0, 1, 1, 0, 0, 1, 1, 0, 0, 1, 1, 0, 0, 1, 1,
                    32, 1, 0, 0, 0, 0, (long) scaled,
                    18, 2, 0, 0, 0, 1, (long) (x.strength(1, 8) * 1000000.0),
                    18, 2, 0, 0, 0, 2, (long) (x.strength(2, 8) * 1000000.0),
                    9, 2, 1, 7, 1, 0,
                    16, WHOLE / 128, -9, WHOLE, 9, WHOLE,
                    WHOLE / 512, 1,
                    0));
        });
    }

    /** Wins whose pair is proved at 50 but not at 49, and at 51 but not at 50. */
    private static void levelOfProved(Check check) {
        int[][] wins = {{13, 4, 49, 50}, {22, 10, 50, 51}};
        for (int[] row : wins) {
            check.edge(29, VALUES, x -> {
                x.begin(2, 1);
                Check.repeat(x, row[0], 0, 1, 1);
                Check.repeat(x, row[1], 0, 1, 2);
                check.due("at " + row[2], x.proved(row[2], -1), 0);
                check.due("at " + row[3], x.proved(row[3], -1), 1);
                check.due("digest", x.digest(), EdgesOfOrders.oracleOf(x).digest());
            });
        }
    }

    private static void valuesOfAFullOne(Check check) {
        check.edge(29, "Computes a hash of the whole state.", x -> {
            ListeningTrials full = Check.full();
            Oracle oracle = EdgesOfOrders.oracleOf(full);
            oracle.plan(7, 2, 2026);
            oracle.current = 4;
            oracle.buffer = "0:a>b,b>c,c>a;1:d<e,e<f,f<d;2:g=h,h=a;3:a>h,b>g;4:c<f,d<e;5:";
            check.due("of a full one", full.digest(), oracle.digest());
        });
        check.edge(29, "Computes a hash of the whole state.", x -> {
            long[] seen = new long[7];
            seen[0] = x.digest();
            x.setWeight(1, 0);
            seen[1] = x.digest();
            x.append('0');
            seen[2] = x.digest();
            x.plan(0, 1, 1);
            seen[3] = x.digest();
            x.compare(1, 0, 1, 1);
            seen[4] = x.digest();
            x.remove(0);
            seen[5] = x.digest();
            x.begin(3, 2);
            seen[6] = x.digest();
            for (int k = 0; k < seen.length; k++) {
                for (int other = 0; other < k; other++) {
                    check.dueTrue("states " + k + ", " + other, seen[k] != seen[other]);
                }
            }
        });
    }

    private static void unchanged(Check check) {
        check.edge(29, "Returns the hash.", x -> {
            ListeningTrials full = Check.full();
            long first = full.digest();
            check.due("again", full.digest(), first);
            check.due("of one made alike", Check.full().digest(), first);
            check.dueRow("nothing is changed", Check.countsOf(full), 8, 8, 48, 17, 16, 52, 12, 7);
        });
    }
}
