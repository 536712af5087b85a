import java.util.Arrays;

/**
 * An evaluation of listening trials: plans, answers, ranks, rings, chances and strengths.
 *
 * Every row that a call works on is made with the object and used again, so that a long run of
 * calls makes next to nothing new; only plan() makes an object, because steps keep old plans.
 */
public final class ListeningTrials {
    public static final int NONE = -1;

    private static final int MOST_SAMPLES = 8;
    private static final int MOST_LISTENERS = 8;
    private static final int MOST_COMPARISONS = 48;
    private static final int MOST_STEPS = 12;
    private static final int MOST_CODES = 60;
    private static final int MOST_PAIRS = 28;
    private static final int MOST_ROUNDS = 60;
    private static final int MOST_WEIGHT = 9;
    private static final int CELLS = 64;
    private static final int SETS = 256;
    private static final int HALF_SETS = 16;
    private static final int TIE = 0;
    private static final int FIRST_PREFERRED = 1;
    private static final int SECOND_PREFERRED = 2;
    private static final int DIGEST_ROUNDS = 8;
    private static final int DIGEST_LEVEL = 50;
    private static final int CHANCE_BITS = 48;
    /** The denominator of all chances. */
    private static final long WHOLE = 1L << CHANCE_BITS;

    private int samples;
    private int listeners;
    private final int[] weights;
    private final Comparisons comparisons;
    private Plan plan;
    private int current;
    private final History history;
    private final Text text;
    private final Tally tally;
    private final Leads leads;
    private final Leads otherLeads;
    private final Standing standing;
    private final ProvedPairs provedPairs;
    private final Strengths strengths;

    public ListeningTrials() {
        weights = new int[MOST_LISTENERS];
        comparisons = new Comparisons();
        history = new History();
        text = new Text();
        tally = new Tally();
        leads = new Leads();
        otherLeads = new Leads();
        standing = new Standing();
        provedPairs = new ProvedPairs();
        strengths = new Strengths();
        startAnew(3, 2);
    }

    // ---- trials

    public int begin(int samples, int listeners) throws IllegalArgumentException {
        requireArgument(samples >= 2 && samples <= MOST_SAMPLES);
        requireArgument(listeners >= 1 && listeners <= MOST_LISTENERS);
        startAnew(samples, listeners);
        return samples * (samples - 1) / 2;
    }

    public int setWeight(int listener, int weight)
            throws IndexOutOfBoundsException, IllegalArgumentException {
        requireIndex(listener, listeners);
        requireArgument(weight >= 0 && weight <= MOST_WEIGHT);
        int previous = weights[listener];
        weights[listener] = weight;
        return previous;
    }

    public int plan(int listener, int repeats, int seed)
            throws IndexOutOfBoundsException, IllegalArgumentException {
        requireIndex(listener, listeners);
        requireArgument((repeats == 1 || repeats == 2) && seed >= 0);
        Plan made = new Plan(listener, samples, repeats, seed);
        plan = made;
        current = 0;
        return made.size();
    }

    public int trial(int trial, boolean second)
            throws IllegalStateException, IndexOutOfBoundsException {
        Plan made = plan;
        if (made == null) {
            throw new IllegalStateException("there is no plan");
        }
        requireIndex(trial, made.size());
        return second ? made.secondAt(trial) : made.firstAt(trial);
    }

    public int answer(int answer) throws IllegalStateException, IllegalArgumentException {
        Plan made = plan;
        if (made == null || current >= made.size() || comparisons.isFull()) {
            throw new IllegalStateException("no trial can be answered");
        }
        requireAnswer(answer);
        rememberStep();
        comparisons.put(Comparisons.packed(
                made.listener, made.firstAt(current), made.secondAt(current), answer));
        current++;
        return trialsLeft();
    }

    public int compare(int listener, int first, int second, int answer)
            throws IndexOutOfBoundsException, IllegalArgumentException, IllegalStateException {
        requireIndex(listener, listeners);
        requireIndex(first, samples);
        requireIndex(second, samples);
        requireArgument(first != second);
        requireAnswer(answer);
        requireRoom(1);
        rememberStep();
        comparisons.put(Comparisons.packed(listener, first, second, answer));
        return comparisons.size - 1;
    }

    public int remove(int comparison) throws IndexOutOfBoundsException {
        requireIndex(comparison, comparisons.size);
        rememberStep();
        comparisons.takeOut(comparison);
        return comparisons.size;
    }

    public int undo() throws IllegalStateException {
        Step step = history.takeLatest();
        if (step == null) {
            throw new IllegalStateException("no step can be undone");
        }
        comparisons.copyFrom(step.comparisons);
        plan = step.plan;
        current = step.current;
        return comparisons.size;
    }

    // ---- texts

    public int append(int code) throws IllegalArgumentException, IllegalStateException {
        requireArgument(code >= 33 && code <= 126);
        if (text.isFull()) {
            throw new IllegalStateException("the buffer is full");
        }
        text.put(code);
        return text.length;
    }

    public int clearBuffer() {
        int length = text.length;
        text.length = 0;
        return length;
    }

    public int firstError() {
        return text.scan(samples, listeners);
    }

    public int load() throws IllegalArgumentException, IllegalStateException {
        requireArgument(text.isWhole(samples, listeners));
        int added = text.found;
        requireRoom(added);
        rememberStep();
        for (int k = 0; k < added; k++) {
            comparisons.put(text.foundAt(k));
        }
        text.length = 0;
        return added;
    }

    // ---- what was answered

    public int count(int what) throws IllegalArgumentException {
        requireArgument(what >= 0 && what <= 7);
        return countOf(what);
    }

    public int comparison(int comparison, int what)
            throws IndexOutOfBoundsException, IllegalArgumentException {
        requireIndex(comparison, comparisons.size);
        requireArgument(what >= 0 && what <= 3);
        return Comparisons.propertyOf(comparisons.at(comparison), what);
    }

    public int result(int i, int j, int what)
            throws IndexOutOfBoundsException, IllegalArgumentException {
        requireIndex(i, samples);
        requireIndex(j, samples);
        requireArgument(what >= 0 && what <= 3);
        if (what == 3) {
            return preferring(i, j);
        }
        if (what == 2) {
            weigh(NONE);
            return standing.margins.lead(i, j);
        }
        tally.take(comparisons);
        return what == 0 ? tally.winsOf(i, j) : tally.tiesOf(i, j);
    }

    // ---- ranks

    public int sample(int sample, int what)
            throws IndexOutOfBoundsException, IllegalArgumentException {
        requireIndex(sample, samples);
        requireArgument(what >= 0 && what <= 5);
        weigh(NONE);
        return standing.propertyOf(comparisons, sample, what);
    }

    public int order(int place) throws IndexOutOfBoundsException {
        requireIndex(place, samples);
        weigh(NONE);
        return standing.sampleAt(place);
    }

    public int summary(int what) throws IllegalArgumentException {
        requireArgument(what >= 0 && what <= 5);
        weigh(NONE);
        return standing.numberOf(comparisons, what);
    }

    public int without(int listener, int sample, int what)
            throws IndexOutOfBoundsException, IllegalArgumentException {
        requireIndex(listener, listeners);
        if (sample != NONE) {
            requireIndex(sample, samples);
        }
        requireArgument(what >= 0 && what <= 5);
        weigh(listener);
        return sample == NONE
                ? standing.numberOf(comparisons, what)
                : standing.propertyOf(comparisons, sample, what);
    }

    // ---- listeners

    public int rings(int listener) throws IndexOutOfBoundsException {
        requireIndex(listener, listeners);
        return ringsOf(listener);
    }

    public double consistency(int listener)
            throws IndexOutOfBoundsException, IllegalStateException {
        requireIndex(listener, listeners);
        leads.takeListener(comparisons, listener);
        if (!leads.isComplete(samples)) {
            throw new IllegalStateException("the listener is not complete");
        }
        int most = mostRings(samples);
        if (most == 0) {
            return 1.0;
        }
        return 1.0 - (double) leads.countRings(samples) / (double) most;
    }

    public double agreement(int one, int other) throws IndexOutOfBoundsException {
        requireIndex(one, listeners);
        requireIndex(other, listeners);
        leads.takeListener(comparisons, one);
        otherLeads.takeListener(comparisons, other);
        int pairs = 0;
        int balance = 0;
        for (int i = 0; i < samples; i++) {
            for (int j = i + 1; j < samples; j++) {
                int mine = leads.lead(i, j);
                int yours = otherLeads.lead(i, j);
                if (mine != 0 && yours != 0) {
                    pairs++;
                    balance += (mine > 0) == (yours > 0) ? 1 : -1;
                }
            }
        }
        return pairs == 0 ? 0.0 : (double) balance / (double) pairs;
    }

    // ---- chances

    public long chance(int i, int j) throws IndexOutOfBoundsException, IllegalArgumentException {
        requireIndex(i, samples);
        requireIndex(j, samples);
        requireArgument(i != j);
        tally.take(comparisons);
        return tally.chanceOf(i, j);
    }

    public long placeChance() {
        return coinChance(
                comparisons.countAnswers(FIRST_PREFERRED),
                comparisons.countAnswers(SECOND_PREFERRED));
    }

    public int proved(int level, int index)
            throws IllegalArgumentException, IndexOutOfBoundsException {
        requireArgument(level >= 1 && level <= 1000);
        int number = provedAt(level);
        if (index == NONE) {
            return number;
        }
        requireIndex(index, number);
        return provedPairs.namedPair(tally, index);
    }

    // ---- strengths

    public double strength(int sample, int rounds)
            throws IndexOutOfBoundsException, IllegalArgumentException {
        requireIndex(sample, samples);
        requireArgument(rounds >= 0 && rounds <= MOST_ROUNDS);
        fitStrengths(rounds);
        return strengths.values[sample];
    }

    public double misfit(int rounds) throws IllegalArgumentException {
        requireArgument(rounds >= 0 && rounds <= MOST_ROUNDS);
        fitStrengths(rounds);
        return strengths.sumOfSquares();
    }

    public long digest() {
        long hash = 1889;
        hash = hashAnswers(hash);
        hash = hashPlan(hash);
        hash = hashRanks(hash);
        hash = hashPairs(hash);
        hash = mixed(hash, placeChance());
        hash = mixed(hash, provedAt(DIGEST_LEVEL));
        hash = mixed(hash, text.length);
        for (int k = 0; k < text.length; k++) {
            hash = mixed(hash, text.codeAt(k));
        }
        return hash;
    }

    // ---- the parts of the digest

    private static long mixed(long hash, long value) {
        return 31 * hash + value;
    }

    private long hashAnswers(long before) {
        long hash = before;
        for (int what = 0; what <= 7; what++) {
            hash = mixed(hash, countOf(what));
        }
        for (int listener = 0; listener < listeners; listener++) {
            hash = mixed(hash, weights[listener]);
            hash = mixed(hash, ringsOf(listener));
        }
        for (int k = 0; k < comparisons.size; k++) {
            for (int what = 0; what <= 3; what++) {
                hash = mixed(hash, Comparisons.propertyOf(comparisons.at(k), what));
            }
        }
        return hash;
    }

    private long hashPlan(long before) {
        long hash = before;
        Plan made = plan;
        if (made == null) {
            return hash;
        }
        for (int k = 0; k < made.size(); k++) {
            hash = mixed(hash, made.firstAt(k));
            hash = mixed(hash, made.secondAt(k));
        }
        return hash;
    }

    private long hashRanks(long before) {
        long hash = before;
        weigh(NONE);
        fitStrengths(DIGEST_ROUNDS);
        for (int i = 0; i < samples; i++) {
            for (int what = 0; what <= 5; what++) {
                hash = mixed(hash, standing.propertyOf(comparisons, i, what));
            }
            // Strengths are never negative, so the cast rounds down.
            hash = mixed(hash, (long) (strengths.values[i] * 1000000.0));
        }
        for (int what = 0; what <= 5; what++) {
            hash = mixed(hash, standing.numberOf(comparisons, what));
        }
        return hash;
    }

    private long hashPairs(long before) {
        long hash = before;
        weigh(NONE);
        tally.take(comparisons);
        for (int i = 0; i < samples; i++) {
            for (int j = i + 1; j < samples; j++) {
                hash = mixed(hash, standing.margins.lead(i, j));
                hash = mixed(hash, tally.chanceOf(i, j));
            }
        }
        return hash;
    }

    // ---- what the calls share

    private void startAnew(int newSamples, int newListeners) {
        samples = newSamples;
        listeners = newListeners;
        Arrays.fill(weights, 1);
        comparisons.size = 0;
        plan = null;
        current = 0;
        history.forgetAll();
    }

    private void rememberStep() {
        history.next().keep(comparisons, plan, current);
    }

    private int trialsLeft() {
        Plan made = plan;
        return made == null ? 0 : made.size() - current;
    }

    private int countOf(int what) {
        Plan made = plan;
        switch (what) {
            case 0:
                return samples;
            case 1:
                return listeners;
            case 2:
                return comparisons.size;
            case 3:
                return comparisons.countAnswers(TIE);
            case 4:
                return comparisons.countAnswers(FIRST_PREFERRED);
            case 5:
                return trialsLeft();
            case 6:
                return history.kept;
            default:
                return made == null ? NONE : made.listener;
        }
    }

    private int preferring(int i, int j) {
        int number = 0;
        for (int listener = 0; listener < listeners; listener++) {
            leads.takeListener(comparisons, listener);
            if (leads.isAhead(i, j)) {
                number++;
            }
        }
        return number;
    }

    private int ringsOf(int listener) {
        leads.takeListener(comparisons, listener);
        return leads.countRings(samples);
    }

    private void weigh(int ignoredListener) {
        standing.weigh(comparisons, samples, weights, ignoredListener);
    }

    private int provedAt(int level) {
        tally.take(comparisons);
        provedPairs.take(tally, samples);
        return provedPairs.countAt(level);
    }

    private void fitStrengths(int rounds) {
        tally.take(comparisons);
        strengths.fit(tally, samples, rounds);
    }

    private void requireRoom(int more) {
        if (comparisons.size + more > MOST_COMPARISONS) {
            throw new IllegalStateException("too many comparisons");
        }
    }

    private static void requireIndex(int index, int size) {
        if (index < 0 || index >= size) {
            throw new IndexOutOfBoundsException("there is no such number");
        }
    }

    private static void requireArgument(boolean allowed) {
        if (!allowed) {
            throw new IllegalArgumentException("an argument is not allowed");
        }
    }

    private static void requireAnswer(int answer) {
        requireArgument(answer >= TIE && answer <= SECOND_PREFERRED);
    }

    /** The masks keep the cell of any two numbers inside a row of CELLS. */
    private static int cell(int i, int j) {
        return (i & 7) << 3 | (j & 7);
    }

    private static boolean contains(int set, int member) {
        return (set >> member & 1) != 0;
    }

    private static int mostRings(int n) {
        return n % 2 == 1 ? (n * n * n - n) / 24 : (n * n * n - 4 * n) / 24;
    }

    /** The chance that a fair coin gives one side as many wins as the greater number, or more. */
    private static long coinChance(int wins, int otherWins) {
        int n = wins + otherWins;
        if (n == 0) {
            return WHOLE;
        }
        int fewer = Math.min(wins, otherWins);
        long coefficient = 1;
        long sum = 0;
        // C(n, x) is C(n, n - x), so the sum may run over the fewer wins from 0 on.
        for (int k = 0; k <= fewer; k++) {
            sum += coefficient;
            // C(n, k + 1) from C(n, k); this division leaves no remainder.
            coefficient = coefficient * (n - k) / (k + 1);
        }
        // At most 48 wins are there, so the denominator 2 to the power of n divides WHOLE.
        return Math.min(WHOLE, (2 * sum) << (CHANCE_BITS - n));
    }

    /** The comparisons in their order, each packed into one number so that steps copy one row. */
    private static final class Comparisons {
        private final int[] codes;
        private int size;

        Comparisons() {
            codes = new int[MOST_COMPARISONS];
            size = 0;
        }

        static int packed(int listener, int first, int second, int answer) {
            return (listener & 7) << 8 | (first & 7) << 5 | (second & 7) << 2 | (answer & 3);
        }

        static int listenerOf(int code) {
            return code >> 8 & 7;
        }

        static int firstOf(int code) {
            return code >> 5 & 7;
        }

        static int secondOf(int code) {
            return code >> 2 & 7;
        }

        static int answerOf(int code) {
            return code & 3;
        }

        static int propertyOf(int code, int what) {
            switch (what) {
                case 0:
                    return listenerOf(code);
                case 1:
                    return firstOf(code);
                case 2:
                    return secondOf(code);
                default:
                    return answerOf(code);
            }
        }

        /** Of a comparison that is no tie. */
        static int winnerOf(int code) {
            return answerOf(code) == FIRST_PREFERRED ? firstOf(code) : secondOf(code);
        }

        /** Of a comparison that is no tie. */
        static int loserOf(int code) {
            return answerOf(code) == FIRST_PREFERRED ? secondOf(code) : firstOf(code);
        }

        boolean isFull() {
            return size >= MOST_COMPARISONS;
        }

        int at(int index) {
            return index >= 0 && index < size ? codes[index] : 0;
        }

        void put(int code) {
            if (!isFull()) {
                codes[size] = code;
                size++;
            }
        }

        void takeOut(int index) {
            if (index < 0 || index >= size) {
                return;
            }
            for (int k = index + 1; k < size; k++) {
                codes[k - 1] = codes[k];
            }
            size--;
        }

        void copyFrom(Comparisons other) {
            System.arraycopy(other.codes, 0, codes, 0, MOST_COMPARISONS);
            size = other.size;
        }

        int countAnswers(int answer) {
            int number = 0;
            for (int k = 0; k < size; k++) {
                if (answerOf(codes[k]) == answer) {
                    number++;
                }
            }
            return number;
        }
    }

    /** A plan never changes once it is made, so that steps can keep it without a copy. */
    private static final class Plan {
        private final int listener;
        private final int[] trials;

        Plan(int listener, int samples, int repeats, int seed) {
            this.listener = listener;
            trials = new int[repeats * (samples * (samples - 1) / 2)];
            listTrials(samples, repeats);
            shuffle(exchangeSamples(seed));
        }

        int size() {
            return trials.length;
        }

        int firstAt(int index) {
            return index >= 0 && index < trials.length ? trials[index] >> 3 : 0;
        }

        int secondAt(int index) {
            return index >= 0 && index < trials.length ? trials[index] & 7 : 0;
        }

        private void listTrials(int samples, int repeats) {
            int k = 0;
            for (int repeat = 0; repeat < repeats; repeat++) {
                for (int i = 0; i < samples; i++) {
                    for (int j = i + 1; j < samples && k < trials.length; j++) {
                        trials[k] = cell(i, j);
                        k++;
                    }
                }
            }
        }

        private long exchangeSamples(int seed) {
            long x = seed;
            for (int k = 0; k < trials.length; k++) {
                x = nextRandom(x);
                if (drawn(x, 2) == 1) {
                    trials[k] = cell(secondAt(k), firstAt(k));
                }
            }
            return x;
        }

        private void shuffle(long before) {
            long x = before;
            for (int k = trials.length - 1; k >= 1; k--) {
                x = nextRandom(x);
                int other = drawn(x, k + 1);
                int moved = trials[k];
                trials[k] = trials[other];
                trials[other] = moved;
            }
        }

        private static long nextRandom(long x) {
            return (1103515245L * x + 12345L) & ((1L << 31) - 1);
        }

        /** Below n, as x is never negative. */
        private static int drawn(long x, int n) {
            return n > 0 ? (int) (x / 65536 % n) : 0;
        }
    }

    /** What undo puts back: the state before a step. */
    private static final class Step {
        private final Comparisons comparisons;
        private Plan plan;
        private int current;

        Step() {
            comparisons = new Comparisons();
            plan = null;
            current = 0;
        }

        void keep(Comparisons now, Plan planNow, int currentNow) {
            comparisons.copyFrom(now);
            plan = planNow;
            current = currentNow;
        }
    }

    /** The latest steps as a ring of slots: a further step takes the slot of the oldest one. */
    private static final class History {
        private final Step[] steps;
        private int newest;
        private int kept;

        History() {
            steps = new Step[MOST_STEPS];
            for (int k = 0; k < MOST_STEPS; k++) {
                steps[k] = new Step();
            }
            newest = 0;
            kept = 0;
        }

        void forgetAll() {
            kept = 0;
        }

        Step next() {
            newest = newest + 1 < MOST_STEPS ? newest + 1 : 0;
            kept = Math.min(kept + 1, MOST_STEPS);
            return steps[newest];
        }

        /** Null if no step is kept. */
        Step takeLatest() {
            if (kept == 0) {
                return null;
            }
            Step latest = steps[newest];
            newest = newest > 0 ? newest - 1 : MOST_STEPS - 1;
            kept--;
            return latest;
        }
    }

    /** The buffer, and its reader, which takes one character after the other. */
    private static final class Text {
        private static final int LISTENER = 0;
        private static final int COLON = 1;
        private static final int FIRST = 2;
        private static final int SIGN = 3;
        private static final int SECOND = 4;
        private static final int BEHIND_PAIR = 5;

        private final int[] codes;
        private int length;
        private final int[] pairs;
        private int found;
        private int expected;
        private int listener;
        private int first;
        private int answer;

        Text() {
            codes = new int[MOST_CODES];
            length = 0;
            // A pair ends with its third character and has at least one more before it.
            pairs = new int[MOST_CODES / 4];
            found = 0;
            expected = LISTENER;
            listener = 0;
            first = 0;
            answer = 0;
        }

        boolean isFull() {
            return length >= MOST_CODES;
        }

        void put(int code) {
            if (!isFull()) {
                codes[length] = code;
                length++;
            }
        }

        int codeAt(int index) {
            return index >= 0 && index < length ? codes[index] : 0;
        }

        int foundAt(int index) {
            return index >= 0 && index < found ? pairs[index] : 0;
        }

        boolean isWhole(int samples, int listeners) {
            return scan(samples, listeners) == length && expected == BEHIND_PAIR;
        }

        /** Finds the pairs up to the first syntax error, and returns its index. */
        int scan(int samples, int listeners) {
            found = 0;
            expected = LISTENER;
            for (int k = 0; k < length; k++) {
                if (!takes(codes[k], samples, listeners)) {
                    return k;
                }
            }
            return length;
        }

        private boolean takes(int code, int samples, int listeners) {
            switch (expected) {
                case LISTENER:
                    listener = code - '0';
                    expected = COLON;
                    return listener >= 0 && listener < listeners;
                case COLON:
                    expected = FIRST;
                    return code == ':';
                case FIRST:
                    first = code - 'a';
                    expected = SIGN;
                    return first >= 0 && first < samples;
                case SIGN:
                    answer = answerOfSign(code);
                    expected = SECOND;
                    return answer != NONE;
                case SECOND:
                    expected = BEHIND_PAIR;
                    return takesSecond(code - 'a', samples);
                default:
                    expected = code == ',' ? FIRST : LISTENER;
                    return code == ',' || code == ';';
            }
        }

        private boolean takesSecond(int second, int samples) {
            if (second < 0 || second >= samples || second == first || found >= pairs.length) {
                return false;
            }
            pairs[found] = Comparisons.packed(listener, first, second, answer);
            found++;
            return true;
        }

        private static int answerOfSign(int code) {
            switch (code) {
                case '>':
                    return FIRST_PREFERRED;
                case '<':
                    return SECOND_PREFERRED;
                case '=':
                    return TIE;
                default:
                    return NONE;
            }
        }
    }

    /** Wins and ties of all pairs, without weights. */
    private static final class Tally {
        private final int[] wins;
        private final int[] ties;

        Tally() {
            wins = new int[CELLS];
            ties = new int[CELLS];
        }

        void take(Comparisons comparisons) {
            Arrays.fill(wins, 0);
            Arrays.fill(ties, 0);
            for (int k = 0; k < comparisons.size; k++) {
                int code = comparisons.at(k);
                if (Comparisons.answerOf(code) == TIE) {
                    ties[cell(Comparisons.firstOf(code), Comparisons.secondOf(code))]++;
                    ties[cell(Comparisons.secondOf(code), Comparisons.firstOf(code))]++;
                } else {
                    wins[cell(Comparisons.winnerOf(code), Comparisons.loserOf(code))]++;
                }
            }
        }

        int winsOf(int i, int j) {
            return wins[cell(i, j)];
        }

        int tiesOf(int i, int j) {
            return ties[cell(i, j)];
        }

        int decidedOf(int i, int j) {
            return wins[cell(i, j)] + wins[cell(j, i)];
        }

        long chanceOf(int i, int j) {
            return coinChance(winsOf(i, j), winsOf(j, i));
        }
    }

    /** By how much each sample is ahead of each other one, for one listener or for all. */
    private static final class Leads {
        private final int[] row;

        Leads() {
            row = new int[CELLS];
        }

        void clearAll() {
            Arrays.fill(row, 0);
        }

        void takeListener(Comparisons comparisons, int listener) {
            clearAll();
            for (int k = 0; k < comparisons.size; k++) {
                int code = comparisons.at(k);
                if (Comparisons.listenerOf(code) == listener) {
                    addWin(code, 1);
                }
            }
        }

        void addWin(int code, int weight) {
            if (Comparisons.answerOf(code) != TIE) {
                int winner = Comparisons.winnerOf(code);
                int loser = Comparisons.loserOf(code);
                row[cell(winner, loser)] += weight;
                row[cell(loser, winner)] -= weight;
            }
        }

        int lead(int i, int j) {
            return row[cell(i, j)];
        }

        boolean isAhead(int i, int j) {
            return row[cell(i, j)] > 0;
        }

        boolean isComplete(int samples) {
            for (int i = 0; i < samples; i++) {
                for (int j = i + 1; j < samples; j++) {
                    if (lead(i, j) == 0) {
                        return false;
                    }
                }
            }
            return true;
        }

        int countRings(int samples) {
            int number = 0;
            for (int i = 0; i < samples; i++) {
                for (int j = i + 1; j < samples; j++) {
                    for (int k = j + 1; k < samples; k++) {
                        if (isRing(i, j, k) || isRing(k, j, i)) {
                            number++;
                        }
                    }
                }
            }
            return number;
        }

        private boolean isRing(int i, int j, int k) {
            return isAhead(i, j) && isAhead(j, k) && isAhead(k, i);
        }
    }

    /** Points, layers and the best order, by the weights of one call. */
    private static final class Standing {
        private int samples;
        private final int[] weights;
        private final Leads margins;
        private final int[] points;
        private final int[] reducedPoints;
        private final int[] beaters;
        private final int[] layers;
        private int layerCount;
        private int topSet;
        private boolean layered;
        private final BestOrder best;

        Standing() {
            samples = 0;
            weights = new int[MOST_LISTENERS];
            margins = new Leads();
            points = new int[MOST_SAMPLES];
            reducedPoints = new int[MOST_SAMPLES];
            beaters = new int[MOST_SAMPLES];
            layers = new int[MOST_SAMPLES];
            layerCount = 0;
            topSet = 0;
            layered = false;
            best = new BestOrder();
        }

        void weigh(Comparisons comparisons, int sampleCount, int[] allWeights, int ignored) {
            samples = Math.min(sampleCount, MOST_SAMPLES);
            layered = false;
            best.known = false;
            for (int k = 0; k < MOST_LISTENERS; k++) {
                weights[k] = k == ignored || k >= allWeights.length ? 0 : allWeights[k];
            }
            margins.clearAll();
            Arrays.fill(points, 0);
            for (int k = 0; k < comparisons.size; k++) {
                int code = comparisons.at(k);
                int weight = weights[Comparisons.listenerOf(code)];
                margins.addWin(code, weight);
                addPoints(points, code, weight);
            }
        }

        int propertyOf(Comparisons comparisons, int sample, int what) {
            switch (what) {
                case 0:
                    return points[sample & 7];
                case 1:
                    return rankIn(points, sample);
                case 2:
                    return isStable(comparisons, sample) ? 1 : 0;
                case 3:
                    return dominanceOf(sample);
                case 4:
                    findLayers();
                    return layers[sample & 7];
                default:
                    best.find(margins, samples);
                    return best.placeOf(sample);
            }
        }

        int numberOf(Comparisons comparisons, int what) {
            switch (what) {
                case 0:
                    best.find(margins, samples);
                    return best.disagreement;
                case 1:
                    best.find(margins, samples);
                    return best.equallyGood;
                case 2:
                    findLayers();
                    return layerCount;
                case 3:
                    findLayers();
                    return topSet;
                case 4:
                    return margins.countRings(samples);
                default:
                    return countStable(comparisons);
            }
        }

        int sampleAt(int place) {
            best.find(margins, samples);
            return best.sampleAt(place);
        }

        /** The first sample gets 2, 1 or 0 times the weight, the second one what is left of 2. */
        private static void addPoints(int[] row, int code, int weight) {
            int answer = Comparisons.answerOf(code);
            int share = answer == TIE ? 1 : answer == FIRST_PREFERRED ? 2 : 0;
            if (row.length >= MOST_SAMPLES) {
                row[Comparisons.firstOf(code)] += share * weight;
                row[Comparisons.secondOf(code)] += (2 - share) * weight;
            }
        }

        private int rankIn(int[] row, int sample) {
            int rank = 1;
            for (int k = 0; k < samples && k < row.length; k++) {
                if (row[k] > row[sample & 7]) {
                    rank++;
                }
            }
            return rank;
        }

        private boolean isStable(Comparisons comparisons, int sample) {
            int rank = rankIn(points, sample);
            for (int k = 0; k < comparisons.size; k++) {
                int code = comparisons.at(k);
                System.arraycopy(points, 0, reducedPoints, 0, MOST_SAMPLES);
                addPoints(reducedPoints, code, -weights[Comparisons.listenerOf(code)]);
                if (rankIn(reducedPoints, sample) != rank) {
                    return false;
                }
            }
            return true;
        }

        private int countStable(Comparisons comparisons) {
            int number = 0;
            for (int i = 0; i < samples; i++) {
                if (isStable(comparisons, i)) {
                    number++;
                }
            }
            return number;
        }

        private int dominanceOf(int sample) {
            int dominance = 0;
            for (int j = 0; j < samples; j++) {
                if (margins.isAhead(sample, j)) {
                    dominance++;
                }
                if (margins.isAhead(j, sample)) {
                    dominance--;
                }
            }
            return dominance;
        }

        private void findLayers() {
            if (layered) {
                return;
            }
            layered = true;
            findBeaters();
            int left = (1 << samples) - 1;
            topSet = topSetOf(left);
            layerCount = 0;
            for (int layer = 0; layer < samples && left != 0; layer++) {
                int top = topSetOf(left);
                for (int i = 0; i < samples; i++) {
                    if (contains(top, i)) {
                        layers[i] = layer;
                    }
                }
                layerCount++;
                left &= ~top;
            }
        }

        private void findBeaters() {
            for (int j = 0; j < samples; j++) {
                beaters[j] = 0;
                for (int i = 0; i < samples; i++) {
                    if (margins.isAhead(i, j)) {
                        beaters[j] |= 1 << i;
                    }
                }
            }
        }

        /** The smallest closed set is the top set, as all closed sets lie within one another. */
        private int topSetOf(int candidates) {
            int top = candidates;
            for (int i = 0; i < samples; i++) {
                if (contains(candidates, i)) {
                    int closed = closedSet(1 << i, candidates);
                    if (Integer.bitCount(closed) < Integer.bitCount(top)) {
                        top = closed;
                    }
                }
            }
            return top;
        }

        /** Grows a set until each of its members beats all candidates outside it. */
        private int closedSet(int start, int candidates) {
            int set = start;
            // Every round but the last one adds a sample.
            for (int round = 0; round < samples; round++) {
                int before = set;
                for (int j = 0; j < samples; j++) {
                    boolean outside = contains(candidates & ~set, j);
                    if (outside && (set & ~beaters[j]) != 0) {
                        set |= 1 << j;
                    }
                }
                if (set == before) {
                    break;
                }
            }
            return set;
        }
    }

    /**
     * The best order, found set by set: the least disagreement of a set of samples is that of the
     * set without its foremost sample, and what the foremost one costs. The order is then read off
     * from the front, where the lowest sample that costs no more than the least is the right one.
     */
    private static final class BestOrder {
        private boolean known;
        private int samples;
        private int disagreement;
        private int equallyGood;
        private final int[] order;
        private final int[] least;
        private final int[] ways;
        private final int[] lowerCosts;
        private final int[] upperCosts;

        BestOrder() {
            known = false;
            samples = 0;
            disagreement = 0;
            equallyGood = 0;
            order = new int[MOST_SAMPLES];
            least = new int[SETS];
            ways = new int[SETS];
            lowerCosts = new int[MOST_SAMPLES * HALF_SETS];
            upperCosts = new int[MOST_SAMPLES * HALF_SETS];
        }

        void find(Leads margins, int sampleCount) {
            if (known) {
                return;
            }
            known = true;
            samples = Math.min(sampleCount, MOST_SAMPLES);
            takeCosts(margins);
            least[0] = 0;
            ways[0] = 1;
            int all = (1 << samples) - 1;
            for (int set = 1; set <= all && set < SETS; set++) {
                solve(set);
            }
            disagreement = least[all & SETS - 1];
            equallyGood = ways[all & SETS - 1];
            readOff(all);
        }

        int sampleAt(int place) {
            return place >= 0 && place < samples ? order[place] : NONE;
        }

        int placeOf(int sample) {
            for (int place = 0; place < samples; place++) {
                if (order[place] == sample) {
                    return place;
                }
            }
            return NONE;
        }

        /** Tables for the samples 0 to 3 and 4 to 7 spare a sum over all samples for each set. */
        private void takeCosts(Leads margins) {
            for (int i = 0; i < samples; i++) {
                int start = i * HALF_SETS;
                lowerCosts[start] = 0;
                upperCosts[start] = 0;
                for (int half = 1; half < HALF_SETS; half++) {
                    int lowest = Integer.numberOfTrailingZeros(half);
                    int rest = start + (half & half - 1);
                    lowerCosts[start + half] = lowerCosts[rest]
                            + Math.max(0, margins.lead(lowest, i));
                    upperCosts[start + half] = upperCosts[rest]
                            + Math.max(0, margins.lead(lowest + 4, i));
                }
            }
        }

        /** What sample i adds to the disagreement of an order if it stands before this set. */
        private int costBefore(int i, int set) {
            int start = (i & 7) * HALF_SETS;
            return lowerCosts[start + (set & 15)] + upperCosts[start + (set >> 4 & 15)];
        }

        private void solve(int set) {
            int lowest = Integer.MAX_VALUE;
            int number = 0;
            for (int i = 0; i < samples; i++) {
                if (contains(set, i)) {
                    int rest = setWithout(set, i);
                    int total = least[rest] + costBefore(i, rest);
                    if (total < lowest) {
                        lowest = total;
                        number = 0;
                    }
                    if (total == lowest) {
                        number += ways[rest];
                    }
                }
            }
            least[set & SETS - 1] = lowest;
            ways[set & SETS - 1] = number;
        }

        private void readOff(int all) {
            int left = all & SETS - 1;
            for (int place = 0; place < samples; place++) {
                int foremost = foremostOf(left);
                order[place] = foremost;
                left = setWithout(left, foremost);
            }
        }

        private int foremostOf(int set) {
            for (int i = 0; i < samples; i++) {
                int rest = setWithout(set, i);
                if (contains(set, i)
                        && least[rest] + costBefore(i, rest) == least[set & SETS - 1]) {
                    return i;
                }
            }
            return 0;
        }

        private static int setWithout(int set, int member) {
            return set & ~(1 << member) & SETS - 1;
        }
    }

    /** The pairs with a win, the least chance first. */
    private static final class ProvedPairs {
        private final int[] pairs;
        private final long[] chances;
        private int size;

        ProvedPairs() {
            pairs = new int[MOST_PAIRS];
            chances = new long[MOST_PAIRS];
            size = 0;
        }

        void take(Tally tally, int samples) {
            size = 0;
            for (int i = 0; i < samples; i++) {
                for (int j = i + 1; j < samples; j++) {
                    if (tally.decidedOf(i, j) > 0) {
                        insert(cell(i, j), tally.chanceOf(i, j));
                    }
                }
            }
        }

        /** Pairs come in the order of their samples; behind equal chances they keep it. */
        private void insert(int pair, long chance) {
            if (size >= MOST_PAIRS) {
                return;
            }
            int k = size;
            while (k > 0 && chances[k - 1] > chance) {
                pairs[k] = pairs[k - 1];
                chances[k] = chances[k - 1];
                k--;
            }
            pairs[k] = pair;
            chances[k] = chance;
            size++;
        }

        /** No product overflows: a chance is at most WHOLE, and 1000 * 28 is below 2 to the 15. */
        int countAt(int level) {
            int number = 0;
            while (number < size && chances[number] * 1000 * (size - number) <= level * WHOLE) {
                number++;
            }
            return number;
        }

        int namedPair(Tally tally, int index) {
            if (index < 0 || index >= size) {
                return NONE;
            }
            int lower = pairs[index] >> 3;
            int higher = pairs[index] & 7;
            return tally.winsOf(lower, higher) >= tally.winsOf(higher, lower)
                    ? 10 * lower + higher
                    : 10 * higher + lower;
        }
    }

    /** Strengths of the samples, fitted in rounds; every sum runs in the document's order. */
    private static final class Strengths {
        private int samples;
        private final int[] met;
        private final double[] won;
        private final double[] values;
        private final double[] newValues;

        Strengths() {
            samples = 0;
            met = new int[CELLS];
            won = new double[MOST_SAMPLES];
            values = new double[MOST_SAMPLES];
            newValues = new double[MOST_SAMPLES];
        }

        void fit(Tally tally, int sampleCount, int rounds) {
            samples = Math.min(sampleCount, MOST_SAMPLES);
            for (int i = 0; i < samples; i++) {
                takeResults(tally, i);
            }
            Arrays.fill(values, 1.0);
            for (int round = 0; round < rounds; round++) {
                makeNewValues();
                scaleNewValues();
            }
        }

        double sumOfSquares() {
            double sum = 0.0;
            for (int i = 0; i < samples; i++) {
                double difference = won[i] - expectedWins(i);
                sum += difference * difference;
            }
            return sum;
        }

        private void takeResults(Tally tally, int i) {
            int wins = 0;
            int ties = 0;
            for (int j = 0; j < samples; j++) {
                wins += tally.winsOf(i, j);
                ties += tally.tiesOf(i, j);
                met[cell(i, j)] = tally.decidedOf(i, j) + tally.tiesOf(i, j);
            }
            won[i & 7] = wins + 0.5 * ties;
        }

        private void makeNewValues() {
            for (int i = 0; i < samples; i++) {
                double sum = 0.0;
                for (int j = 0; j < samples; j++) {
                    double both = values[i] + values[j];
                    if (met[cell(i, j)] > 0 && both > 0.0) {
                        sum += met[cell(i, j)] / both;
                    }
                }
                newValues[i] = sum > 0.0 ? won[i] / sum : values[i];
            }
        }

        private void scaleNewValues() {
            double total = 0.0;
            for (int i = 0; i < samples; i++) {
                total += newValues[i];
            }
            for (int i = 0; i < samples; i++) {
                values[i] = total > 0.0 ? newValues[i] * (samples / total) : newValues[i];
            }
        }

        private double expectedWins(int i) {
            double sum = 0.0;
            for (int j = 0; j < samples; j++) {
                double both = values[i & 7] + values[j];
                if (met[cell(i, j)] > 0 && both > 0.0) {
                    sum += met[cell(i, j)] * values[i & 7] / both;
                }
            }
            return sum;
        }
    }
}
