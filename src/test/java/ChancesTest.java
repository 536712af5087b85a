/** Promises 24 to 26: chance, placeChance, proved. */
public final class ChancesTest {
    private static final Check CHECK = new Check("ChancesTest");
    private static final long WHOLE = 1L << 48;

    public static void main(String[] args) {
        chance();
        chanceOfMany();
        placeChance();
        provedAtTheEdge();
        provedStepsDown();
        provedOrder();
        provedTies();
        wrongArguments();
        CHECK.end();
    }

    private static ListeningTrials withWins(int wins, int others) {
        ListeningTrials x = new ListeningTrials();
        x.begin(2, 1);
        Check.repeat(x, wins, 0, 1, 1);
        Check.repeat(x, others, 0, 1, 2);
        return x;
    }

    private static void dueChance(int wins, int others, long want) {
        CHECK.due("chance of " + wins + ", " + others, withWins(wins, others).chance(0, 1), want);
        CHECK.due("chance of " + others + ", " + wins, withWins(others, wins).chance(0, 1), want);
        CHECK.due("chance, exchanged", withWins(wins, others).chance(1, 0), want);
        CHECK.due("place chance", withWins(wins, others).placeChance(), want);
    }

    private static void chance() {
        dueChance(0, 0, WHOLE);
        dueChance(1, 0, WHOLE);
        dueChance(1, 1, WHOLE);
        dueChance(2, 0, WHOLE / 2);
        dueChance(2, 1, WHOLE);
        dueChance(5, 0, WHOLE / 16);
        dueChance(3, 1, WHOLE / 16 * 10);
        dueChance(7, 2, WHOLE / 512 * 2 * (36 + 9 + 1));
        ListeningTrials x = withWins(5, 0);
        x.setWeight(0, 0);
        Check.repeat(x, 9, 0, 1, 0);
        CHECK.due("weights and ties do not matter", x.chance(0, 1), WHOLE / 16);
    }

    private static void chanceOfMany() {
        dueChance(48, 0, 2);
        dueChance(47, 1, 2 * (1 + 48));
        dueChance(46, 2, 2 * (1 + 48 + 48 * 47 / 2));
        dueChance(24, 24, WHOLE);
        dueChance(25, 23, WHOLE - 32247603683100L);
        dueChance(47, 0, 4);
    }

    private static void placeChance() {
        ListeningTrials x = new ListeningTrials();
        CHECK.due("place chance of nothing", x.placeChance(), WHOLE);
        Check.load(x, "0:a>b,b>a,c>a;1:b>c,a=b,c>b");
        CHECK.due("place chance of five", x.placeChance(), WHOLE / 16);
        Check.load(x, "0:a<b");
        CHECK.due("place chance of five and one", x.placeChance(), WHOLE / 64 * 14);
        CHECK.due("chance of a, b", x.chance(0, 1), WHOLE);
    }

    /** Four wins have the chance 1 / 8, which is 125 thousandths. */
    private static void provedAtTheEdge() {
        ListeningTrials x = withWins(0, 4);
        CHECK.due("proved(125)", x.proved(125, -1), 1);
        CHECK.due("proved(124)", x.proved(124, -1), 0);
        CHECK.due("proved(1000)", x.proved(1000, -1), 1);
        CHECK.due("the pair", x.proved(125, 0), 10);
        CHECK.dueIndex(x, "proved(124, 0)", () -> x.proved(124, 0));
        CHECK.dueIndex(x, "proved(125, 1)", () -> x.proved(125, 1));
        ListeningTrials none = new ListeningTrials();
        CHECK.due("proved of nothing", none.proved(1000, -1), 0);
        none.compare(0, 0, 1, 0);
        CHECK.due("proved of a tie", none.proved(1000, -1), 0);
    }

    /** Each pair is held against the number of pairs that are left; a failure ends it. */
    private static void provedStepsDown() {
        ListeningTrials x = new ListeningTrials();
        x.begin(4, 1);
        Check.repeat(x, 4, 0, 1, 1);
        Check.repeat(x, 4, 0, 2, 2);
        Check.repeat(x, 4, 3, 0, 1);
        CHECK.due("three of 1 / 8 at 374", x.proved(374, -1), 0);
        CHECK.due("three of 1 / 8 at 375", x.proved(375, -1), 3);
        Check.repeat(x, 1, 1, 2, 1);
        CHECK.due("four pairs at 499", x.proved(499, -1), 0);
        CHECK.due("four pairs at 500", x.proved(500, -1), 3);
        CHECK.due("four pairs at 999", x.proved(999, -1), 3);
        CHECK.due("four pairs at 1000", x.proved(1000, -1), 4);
    }

    private static void provedOrder() {
        ListeningTrials x = new ListeningTrials();
        x.begin(4, 2);
        Check.repeat(x, 4, 0, 1, 1);
        Check.repeat(x, 6, 2, 3, 2);
        Check.repeat(x, 4, 2, 0, 1);
        Check.repeat(x, 5, 3, 1, 2);
        CHECK.due("number", x.proved(1000, -1), 4);
        CHECK.due("proved 0", x.proved(1000, 0), 32);
        CHECK.due("proved 1", x.proved(1000, 1), 13);
        CHECK.due("proved 2", x.proved(1000, 2), 1);
        CHECK.due("proved 3", x.proved(1000, 3), 20);
        CHECK.dueIndex(x, "proved(1000, 4)", () -> x.proved(1000, 4));
    }

    private static void provedTies() {
        ListeningTrials x = new ListeningTrials();
        Check.load(x, "0:c>b,b>c");
        CHECK.due("as many wins of both", x.proved(1000, 0), 12);
        ListeningTrials y = new ListeningTrials();
        y.begin(8, 1);
        for (int i = 0; i < 8; i++) {
            for (int j = i + 1; j < 8; j++) {
                y.compare(0, j, i, 1);
            }
        }
        CHECK.due("28 pairs of chance 1", y.proved(1000, -1), 0);
        CHECK.due("28 pairs of chance 1, level 1", y.proved(1, -1), 0);
    }

    private static void wrongArguments() {
        ListeningTrials x = new ListeningTrials();
        x.compare(0, 0, 1, 1);
        CHECK.dueIndex(x, "chance(3, 0)", () -> x.chance(3, 0));
        CHECK.dueIndex(x, "chance(0, 3)", () -> x.chance(0, 3));
        CHECK.dueIndex(x, "chance(-1, -1)", () -> x.chance(-1, -1));
        CHECK.dueArgument(x, "chance(1, 1)", () -> x.chance(1, 1));
        CHECK.dueArgument(x, "proved(0, -1)", () -> x.proved(0, -1));
        CHECK.dueArgument(x, "proved(1001, 7)", () -> x.proved(1001, 7));
        CHECK.dueIndex(x, "proved(1, -2)", () -> x.proved(1, -2));
        CHECK.dueIndex(x, "proved(1, 0)", () -> x.proved(1, 0));
        CHECK.dueIndex(x, "proved(1000, max)", () -> x.proved(1000, Integer.MAX_VALUE));
    }
}
