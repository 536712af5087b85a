/** Sentences of promises 24 to 26: chance, placeChance, proved. */
final class EdgesOfChances {
    private static final Class<?> INDEX = IndexOutOfBoundsException.class;
    private static final Class<?> ARGUMENT = IllegalArgumentException.class;
    private static final long WHOLE = 1L << 48;

    private EdgesOfChances() { }

    static void run(Check check) {
        coins(check);
        formula(check);
        chance(check);
        chanceRefused(check);
        placeChance(check);
        pairsWithWins(check);
        orderOfPairs(check);
        provedUpToTheFirst(check);
        proved(check);
        provedRefused(check);
    }

    private static ListeningTrials withWins(int wins, int others) {
        ListeningTrials x = new ListeningTrials();
        Check.repeat(x, wins, 0, 1, 1);
        Check.repeat(x, others, 0, 1, 2);
        return x;
    }

    private static void dueChance(Check check, int wins, int others, long want) {
        String call = "chance of " + wins + " and " + others;
        check.due(call, withWins(wins, others).chance(0, 1), want);
        check.due(call + ", exchanged", withWins(wins, others).chance(1, 0), want);
        check.due(call + ", turned", withWins(others, wins).chance(0, 1), want);
    }

    private static void coins(Check check) {
        check.edge(24, "The chance of a pair of samples is the probability that, if the wins of the "
                + "pair had been decided by throwing a fair coin, one of the two samples would have "
                + "as many wins as the one with more wins has now, or more.", x -> {
            // Of the 8 throws of three coins, 2 have one side only, all have one side twice.
            dueChance(check, 3, 0, WHOLE / 8 * 2);
            dueChance(check, 2, 1, WHOLE);
            // Of the 16 throws of four coins, 2 have one side only, 10 have one side thrice.
            dueChance(check, 4, 0, WHOLE / 16 * 2);
            dueChance(check, 3, 1, WHOLE / 16 * 10);
        });
        check.edge(24, "Weights do not matter for it.", x -> {
            Check.repeat(x, 5, 0, 1, 1);
            x.setWeight(0, 0);
            check.due("of weight 0", x.chance(0, 1), WHOLE / 16);
            x.setWeight(0, 9);
            check.due("of weight 9", x.chance(0, 1), WHOLE / 16);
            check.due("places of weight 9", x.placeChance(), WHOLE / 16);
            check.due("proved of weight 9", x.proved(63, -1), 1);
        });
        check.edge(24, "Chances are told as numerators of fractions with the denominator 2 to the "
                + "power of 48.", x -> {
            dueChance(check, 0, 0, 281474976710656L);
            dueChance(check, 2, 0, 140737488355328L);
            dueChance(check, 48, 0, 2);
        });
    }

    private static void formula(Check check) {
        String sentence = "With a wins of the one and b of the other, a at least b, and n = a + b, it "
                + "is 2 * (the sum of the binomial coefficients C(n, x) for x from a to n) / 2 to the "
                + "power of n, but 1 if that would be greater than 1, or if n is 0.";
        check.edge(24, sentence, x -> {
            dueChance(check, 0, 0, WHOLE);
            Check.repeat(x, 48, 0, 1, 0);
            check.due("of ties alone", x.chance(0, 1), WHOLE);
        });
        check.edge(24, sentence, x -> {
            for (int wins = 1; wins <= 24; wins++) {
                dueChance(check, wins, wins, WHOLE);
            }
        });
        check.edge(24, sentence, x -> {
            for (int wins = 1; wins <= 24; wins++) {
                dueChance(check, wins, wins - 1, WHOLE);
            }
        });
        check.edge(24, sentence, x -> {
            for (int wins = 1; wins <= 48; wins++) {
                dueChance(check, wins, 0, WHOLE >> wins - 1);
            }
        });
        check.edge(24, sentence, x -> {
            dueChance(check, 47, 1, 2 * (1 + 48));
            dueChance(check, 46, 2, 2 * (1 + 48 + 1128));
            // 2 to the power of 48 without the C(48, 24) throws that have as many of both sides.
            dueChance(check, 25, 23, WHOLE - 32247603683100L);
            // Without the 2 * C(47, 23) throws that have 24 of one side.
            dueChance(check, 25, 22, WHOLE - 2 * 2 * 16123801841550L);
        });
    }

    private static void chance(Check check) {
        check.edge(24, "Returns the chance of a pair of samples.", x -> {
            Check.load(x, "0:a>b,a>b,b<a;1:c>b,a=b");
            check.due("a, b", x.chance(0, 1), WHOLE / 4);
            check.due("b, a", x.chance(1, 0), WHOLE / 4);
            check.due("b, c", x.chance(1, 2), WHOLE);
            check.due("a, c", x.chance(0, 2), WHOLE);
        });
        check.edge(24, "Returns the numerator of the chance, of the denominator 2 to the power of "
                + "48.", x -> {
            check.due("the greatest", x.chance(0, 1), 281474976710656L);
            check.due("the least", withWins(0, 48).chance(0, 1), 2);
        });
        check.edge(24, "`i`: sample number", x -> {
            x.begin(8, 1);
            Check.repeat(x, 2, 0, 7, 1);
            check.due("the first one", x.chance(0, 7), WHOLE / 2);
            check.dueTaken("chance", 1, 7, n -> x.chance(n, 0));
        });
        check.edge(24, "`j`: sample number", x -> {
            x.begin(8, 1);
            Check.repeat(x, 2, 0, 7, 1);
            check.due("the first one", x.chance(7, 0), WHOLE / 2);
            check.dueTaken("chance", 1, 7, n -> x.chance(0, n));
        });
    }

    private static void chanceRefused(Check check) {
        check.edge(24, "Throws `IndexOutOfBoundsException` if a sample does not exist", x -> {
            check.dueBeyond(x, "i of 3", INDEX, 0, 2, n -> x.chance(n, 0));
            check.dueBeyond(x, "j of 3", INDEX, 0, 2, n -> x.chance(0, n));
            x.begin(8, 1);
            check.dueBeyond(x, "i of 8", INDEX, 0, 7, n -> x.chance(n, 0));
            check.dueBeyond(x, "j of 8", INDEX, 0, 7, n -> x.chance(0, n));
        });
        check.edge(24, "Throws `IllegalArgumentException` if both samples are the same", x -> {
            ListeningTrials full = Check.full();
            for (int i = 0; i < 8; i++) {
                int same = i;
                check.dueArgument(full, "chance of " + i, () -> full.chance(same, same));
            }
        });
    }

    private static void placeChance(Check check) {
        check.edge(25, "Returns the chance of the places: it is computed like the chance of a pair, "
                + "with the comparisons in which the first sample was preferred, and those in which "
                + "the second one was, as wins.", x -> {
            check.due("of nothing", x.placeChance(), WHOLE);
            Check.load(x, "0:a=b,b=c");
            check.due("of ties", x.placeChance(), WHOLE);
            Check.load(x, "0:a>b,b>a;1:c>a,b>c");
            check.due("the first one four times", x.placeChance(), WHOLE / 8);
            Check.load(x, "0:a<b");
            check.due("four and one", x.placeChance(), WHOLE / 32 * 2 * 6);
            Check.load(x, "0:a<b,b<a,c<b");
            check.due("four and four", x.placeChance(), WHOLE);
        });
        check.edge(25, "Returns the numerator of the chance, of the denominator 2 to the power of "
                + "48.", x -> {
            check.due("the greatest", x.placeChance(), 281474976710656L);
            check.due("the least", withWins(48, 0).placeChance(), 2);
            check.due("the least of the second place", withWins(0, 48).placeChance(), 2);
            check.due("the next one", withWins(1, 47).placeChance(), 98);
        });
    }

    private static void pairsWithWins(Check check) {
        check.edge(26, "The proved pairs at a level p (in thousandths): let M be the number of pairs "
                + "with at least one win.", x -> {
            x.begin(4, 1);
            check.due("no pair", x.proved(1000, -1), 0);
            Check.repeat(x, 3, 0, 1, 1);
            check.due("one pair at 250", x.proved(250, -1), 1);
            check.due("one pair at 249", x.proved(249, -1), 0);
            Check.load(x, "0:c=d,b=c,b=d");
            check.due("pairs with ties count for nothing", x.proved(250, -1), 1);
            x.compare(0, 2, 3, 1);
            check.due("a second pair at 250", x.proved(250, -1), 0);
            check.due("a second pair at 499", x.proved(499, -1), 0);
            check.due("a second pair at 500", x.proved(500, -1), 1);
            x.begin(8, 1);
            EdgesOfRanks.winDownwards(x);
            Check.repeat(x, 5, 6, 7, 1);
            check.due("28 pairs at 874", x.proved(874, -1), 0);
            check.due("28 pairs at 875", x.proved(875, -1), 1);
            check.due("the last of 28 pairs", x.proved(875, 0), 67);
        });
    }

    private static void orderOfPairs(Check check) {
        check.edge(26, "They are ordered by their chances, the least first; of equal chances by the "
                + "lower sample, then by the higher one.", x -> {
            x.begin(8, 1);
            Check.repeat(x, 5, 7, 1, 1);
            Check.repeat(x, 6, 6, 5, 1);
            Check.repeat(x, 5, 0, 7, 1);
            Check.repeat(x, 5, 1, 6, 1);
            Check.repeat(x, 4, 0, 1, 1);
            int[] want = {65, 7, 16, 71, 1};
            check.due("number", x.proved(1000, -1), 5);
            for (int k = 0; k < 5; k++) {
                check.due("pair " + k, x.proved(1000, k), want[k]);
            }
        });
    }

    private static void provedUpToTheFirst(Check check) {
        String sentence = "Beginning with the first one, each pair is proved as long as chance * 1000 "
                + "* (M - (number of pairs before it)) is at most p * (2 to the power of 48); the "
                + "first pair for which this is not so, and all pairs behind it, are not proved.";
        check.edge(26, sentence, x -> {
            Check.repeat(x, 4, 0, 1, 1);
            check.due("125 is at most 125", x.proved(125, -1), 1);
            check.due("125 is more than 124", x.proved(124, -1), 0);
        });
        check.edge(26, sentence, x -> {
            Check.repeat(x, 4, 0, 1, 1);
            Check.repeat(x, 4, 0, 2, 1);
            Check.repeat(x, 4, 1, 2, 1);
            check.due("3 * 125 is more than 374", x.proved(374, -1), 0);
            check.due("3 * 125 is at most 375", x.proved(375, -1), 3);
        });
        check.edge(26, sentence, x -> {
            Check.repeat(x, 7, 0, 1, 1);
            Check.repeat(x, 3, 0, 2, 1);
            Check.repeat(x, 3, 1, 2, 1);
            check.due("3 * 15.625", x.proved(46, -1), 0);
            check.due("the first one alone", x.proved(47, -1), 1);
            check.due("2 * 250 is more than 499", x.proved(499, -1), 1);
            check.due("2 * 250 is at most 500", x.proved(500, -1), 3);
        });
        check.edge(26, sentence, x -> {
            x.begin(8, 1);
            EdgesOfRanks.winDownwards(x);
            check.due("28 pairs of chance 1", x.proved(1000, -1), 0);
            x.begin(2, 1);
            x.compare(0, 0, 1, 1);
            check.due("one pair of chance 1 at 1000", x.proved(1000, -1), 1);
            check.due("one pair of chance 1 at 999", x.proved(999, -1), 0);
        });
    }

    /** Pair k from the last one has just the wins that it needs: no more pairs can be proved. */
    private static void winTwelve(ListeningTrials x) {
        int[] wins = {5, 5, 5, 5, 4, 4, 4, 4, 3, 3, 2, 1};
        x.begin(8, 1);
        int k = 0;
        for (int i = 0; i < 8; i++) {
            for (int j = i + 1; j < 8 && k < wins.length; j++) {
                Check.repeat(x, wins[k], j, i, 1);
                k++;
            }
        }
    }

    private static void proved(Check check) {
        check.edge(26, "Returns the number of proved pairs, or a proved pair.", x -> {
            winTwelve(x);
            check.due("the most", x.proved(1000, -1), 12);
            check.due("the first one", x.proved(1000, 0), 10);
            check.due("the last one", x.proved(1000, 11), 61);
        });
        check.edge(26, "`level`: the level p, 1 to 1000", x -> {
            check.dueTaken("proved", 1, 1000, n -> x.proved(n, -1));
            Check.repeat(x, 11, 0, 1, 1);
            check.due("1024th at the least level", x.proved(1, -1), 1);
            x.remove(0);
            check.due("512th at the least level", x.proved(1, -1), 0);
            check.due("512th at the next one", x.proved(2, -1), 1);
            Check.repeat(x, 10, 0, 1, 2);
            check.due("1 at the greatest level", x.proved(1000, -1), 1);
            check.due("1 at the one before", x.proved(999, -1), 0);
        });
        check.edge(26, "`index`: NONE for the number of proved pairs; otherwise the index of a proved "
                + "pair in their order, from 0", x -> {
            check.due("NONE, nothing there", x.proved(1000, ListeningTrials.NONE), 0);
            x.compare(0, 2, 1, 1);
            check.due("NONE", x.proved(1000, ListeningTrials.NONE), 1);
            check.due("0", x.proved(1000, 0), 21);
        });
        check.edge(26, "Returns the number; or 10 * (the sample with more wins) + (the other one) for "
                + "the pair, where the lower sample counts as the one with more wins if both have as "
                + "many.", x -> {
            x.begin(8, 1);
            Check.load(x, "0:h>g,g>h");
            check.due("as many", x.proved(1000, 0), 67);
            x.compare(0, 7, 6, 1);
            check.due("the higher one", x.proved(1000, 0), 76);
            Check.load(x, "0:g>h,g>h");
            check.due("the lower one", x.proved(1000, 0), 67);
            x.begin(2, 1);
            x.compare(0, 0, 1, 1);
            check.due("the least", x.proved(1000, 0), 1);
        });
    }

    private static void provedRefused(Check check) {
        check.edge(26, "Throws `IllegalArgumentException` if level is not 1 to 1000", x -> {
            x.compare(0, 0, 1, 1);
            check.dueBeyond(x, "level", ARGUMENT, 1, 1000, n -> x.proved(n, -1));
            check.dueBeyond(x, "level, a pair", ARGUMENT, 1, 1000, n -> x.proved(n, 0));
        });
        check.edge(26, "Throws `IndexOutOfBoundsException` if index is neither NONE nor the index of "
                + "a proved pair", x -> {
            check.dueBeyond(x, "no pair", INDEX, -1, -1, n -> x.proved(1000, n));
            Check.repeat(x, 4, 0, 1, 1);
            check.dueBeyond(x, "one pair", INDEX, -1, 0, n -> x.proved(125, n));
            check.dueIndex(x, "a pair that is not proved", () -> x.proved(124, 0));
            winTwelve(x);
            check.dueBeyond(x, "twelve pairs", INDEX, -1, 11, n -> x.proved(1000, n));
            check.due("four pairs at 750", x.proved(750, -1), 4);
            check.dueBeyond(x, "four of twelve", INDEX, -1, 3, n -> x.proved(750, n));
        });
    }
}
