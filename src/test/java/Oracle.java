import java.math.BigInteger;
import java.util.ArrayDeque;
import java.util.ArrayList;
import java.util.Arrays;
import java.util.Collections;
import java.util.Comparator;
import java.util.Deque;
import java.util.List;
import java.util.regex.Pattern;

/**
 * A second reading of the document, for comparing answers: by trying out every order, every set and
 * every text, where the class computes. It knows no exceptions; its caller asks valid calls alone.
 */
final class Oracle {
    record Comparison(int listener, int first, int second, int answer) {
        boolean of(int i, int j) {
            return first == i && second == j || first == j && second == i;
        }

        int preferred() {
            return answer == 0 ? -1 : answer == 1 ? first : second;
        }
    }

    record Plan(int listener, List<int[]> trials) { }

    record State(List<Comparison> comparisons, Plan plan, int current) { }

    int samples = 3;
    int listeners = 2;
    int[] weights = {1, 1};
    List<Comparison> comparisons = List.of();
    Plan plan = null;
    int current = 0;
    final Deque<State> steps = new ArrayDeque<>();
    String buffer = "";

    void begin(int newSamples, int newListeners) {
        samples = newSamples;
        listeners = newListeners;
        weights = new int[listeners];
        Arrays.fill(weights, 1);
        comparisons = List.of();
        plan = null;
        current = 0;
        steps.clear();
    }

    void plan(int listener, int repeats, int seed) {
        List<int[]> trials = new ArrayList<>();
        for (int r = 0; r < repeats; r++) {
            for (int i = 0; i < samples; i++) {
                for (int j = i + 1; j < samples; j++) {
                    trials.add(new int[] {i, j});
                }
            }
        }
        BigInteger[] x = {BigInteger.valueOf(seed)};
        for (int[] trial : trials) {
            if (draw(x, 2) == 1) {
                int first = trial[0];
                trial[0] = trial[1];
                trial[1] = first;
            }
        }
        for (int k = trials.size() - 1; k >= 1; k--) {
            Collections.swap(trials, k, draw(x, k + 1));
        }
        plan = new Plan(listener, trials);
        current = 0;
    }

    private static int draw(BigInteger[] x, int n) {
        x[0] = x[0].multiply(BigInteger.valueOf(1103515245)).add(BigInteger.valueOf(12345))
                .mod(BigInteger.TWO.pow(31));
        return x[0].divide(BigInteger.valueOf(65536)).mod(BigInteger.valueOf(n)).intValue();
    }

    private void step() {
        steps.addLast(new State(comparisons, plan, current));
        if (steps.size() > 12) {
            steps.removeFirst();
        }
    }

    void add(List<Comparison> added) {
        step();
        List<Comparison> all = new ArrayList<>(comparisons);
        all.addAll(added);
        comparisons = all;
    }

    void answer(int answer) {
        int[] trial = plan.trials().get(current);
        add(List.of(new Comparison(plan.listener(), trial[0], trial[1], answer)));
        current++;
    }

    void remove(int number) {
        step();
        List<Comparison> all = new ArrayList<>(comparisons);
        all.remove(number);
        comparisons = all;
    }

    void undo() {
        State state = steps.removeLast();
        comparisons = state.comparisons();
        plan = state.plan();
        current = state.current();
    }

    int trialsLeft() {
        return plan == null ? 0 : plan.trials().size() - current;
    }

    // ---- texts

    private boolean isText(String text) {
        String sample = "[a-" + (char) ('a' + samples - 1) + "]";
        String pair = "(" + sample + ")[<>=](?!\\NUMBER)" + sample;
        String group = "[0-" + (listeners - 1) + "]:" + pair.replace("NUMBER", "1")
                + "(?:," + pair.replace("NUMBER", "2") + ")*";
        for (String part : text.split(";", -1)) {
            if (!Pattern.matches(group, part)) {
                return false;
            }
        }
        return true;
    }

    /** Whether a text begins like this: every begun text ends with a tail of one of these two. */
    private boolean beginsText(String start) {
        for (String end : new String[] {"0:a=b", "0:b=a"}) {
            for (int k = 0; k <= end.length(); k++) {
                if (isText(start + end.substring(k))) {
                    return true;
                }
            }
        }
        return false;
    }

    int firstError() {
        for (int k = 0; k < buffer.length(); k++) {
            if (!beginsText(buffer.substring(0, k + 1))) {
                return k;
            }
        }
        return buffer.length();
    }

    boolean isComplete() {
        return isText(buffer);
    }

    List<Comparison> read() {
        List<Comparison> read = new ArrayList<>();
        for (String group : buffer.split(";")) {
            for (String pair : group.substring(2).split(",")) {
                read.add(new Comparison(group.charAt(0) - '0', pair.charAt(0) - 'a',
                        pair.charAt(2) - 'a', "=><".indexOf(pair.charAt(1))));
            }
        }
        return read;
    }

    // ---- answers

    int count(int what) {
        return switch (what) {
            case 0 -> samples;
            case 1 -> listeners;
            case 2 -> comparisons.size();
            case 3 -> (int) comparisons.stream().filter(c -> c.answer() == 0).count();
            case 4 -> (int) comparisons.stream().filter(c -> c.answer() == 1).count();
            case 5 -> trialsLeft();
            case 6 -> steps.size();
            default -> plan == null ? -1 : plan.listener();
        };
    }

    int comparison(int number, int what) {
        Comparison c = comparisons.get(number);
        return new int[] {c.listener(), c.first(), c.second(), c.answer()}[what];
    }

    int wins(int i, int j) {
        return (int) comparisons.stream().filter(c -> c.of(i, j) && c.preferred() == i && i != j)
                .count();
    }

    int ties(int i, int j) {
        return (int) comparisons.stream().filter(c -> c.of(i, j) && c.answer() == 0).count();
    }

    int margin(int i, int j) {
        int margin = 0;
        for (Comparison c : comparisons) {
            if (i != j && c.of(i, j) && c.answer() != 0) {
                margin += c.preferred() == i ? weights[c.listener()] : -weights[c.listener()];
            }
        }
        return margin;
    }

    boolean prefers(int listener, int i, int j) {
        long lead = comparisons.stream().filter(c -> c.listener() == listener && c.of(i, j))
                .mapToInt(c -> c.preferred() == i ? 1 : c.preferred() == j ? -1 : 0).sum();
        return i != j && lead > 0;
    }

    int result(int i, int j, int what) {
        if (what == 0) {
            return wins(i, j);
        }
        if (what == 1) {
            return i == j ? 0 : ties(i, j);
        }
        if (what == 2) {
            return margin(i, j);
        }
        int number = 0;
        for (int listener = 0; listener < listeners; listener++) {
            number += prefers(listener, i, j) ? 1 : 0;
        }
        return number;
    }

    // ---- ranks

    int points(int sample) {
        int points = 0;
        for (Comparison c : comparisons) {
            if (c.first() == sample || c.second() == sample) {
                int times = c.answer() == 0 ? 1 : c.preferred() == sample ? 2 : 0;
                points += times * weights[c.listener()];
            }
        }
        return points;
    }

    int rank(int sample) {
        int rank = 1;
        for (int i = 0; i < samples; i++) {
            rank += points(i) > points(sample) ? 1 : 0;
        }
        return rank;
    }

    boolean stable(int sample) {
        int rank = rank(sample);
        List<Comparison> all = comparisons;
        boolean stable = true;
        for (int k = 0; k < all.size(); k++) {
            comparisons = new ArrayList<>(all);
            comparisons.remove(k);
            stable &= rank(sample) == rank;
        }
        comparisons = all;
        return stable;
    }

    int dominance(int sample) {
        int dominance = 0;
        for (int i = 0; i < samples; i++) {
            dominance += Integer.signum(margin(sample, i));
        }
        return dominance;
    }

    private boolean isTop(int set, int of) {
        for (int i = 0; i < samples; i++) {
            for (int j = 0; j < samples; j++) {
                boolean apart = (set >> i & 1) == 1 && ((of & ~set) >> j & 1) == 1;
                if (apart && margin(i, j) <= 0) {
                    return false;
                }
            }
        }
        return true;
    }

    private int topSet(int of) {
        int top = of;
        for (int set = 1; set <= of; set++) {
            if ((set & ~of) == 0 && Integer.bitCount(set) < Integer.bitCount(top)
                    && isTop(set, of)) {
                top = set;
            }
        }
        return top;
    }

    int topSet() {
        return topSet((1 << samples) - 1);
    }

    /** The layer of each sample, and behind them the number of layers. */
    int[] layers() {
        int[] layers = new int[samples + 1];
        int left = (1 << samples) - 1;
        while (left != 0) {
            int top = topSet(left);
            for (int i = 0; i < samples; i++) {
                if ((top >> i & 1) == 1) {
                    layers[i] = layers[samples];
                }
            }
            layers[samples]++;
            left -= top;
        }
        return layers;
    }

    // The orders are tried in lexicographic order, so the first best one is the smallest.
    int[] bestOrder;
    int disagreement;
    int bestOrders;

    void findOrders() {
        disagreement = Integer.MAX_VALUE;
        bestOrders = 0;
        int[][] cost = new int[samples][samples];
        for (int i = 0; i < samples; i++) {
            for (int j = 0; j < samples; j++) {
                cost[i][j] = Math.max(0, margin(j, i));
            }
        }
        tryOrders(cost, new int[samples], 0, new boolean[samples]);
    }

    private void tryOrders(int[][] cost, int[] order, int length, boolean[] used) {
        if (length == samples) {
            judge(cost, order);
            return;
        }
        for (int i = 0; i < samples; i++) {
            if (!used[i]) {
                used[i] = true;
                order[length] = i;
                tryOrders(cost, order, length + 1, used);
                used[i] = false;
            }
        }
    }

    private void judge(int[][] cost, int[] order) {
        int total = 0;
        for (int one = 0; one < samples; one++) {
            for (int other = one + 1; other < samples; other++) {
                total += cost[order[one]][order[other]];
            }
        }
        if (total < disagreement) {
            disagreement = total;
            bestOrders = 0;
            bestOrder = order.clone();
        }
        if (total == disagreement) {
            bestOrders++;
        }
    }

    int order(int place) {
        findOrders();
        return bestOrder[place];
    }

    int ringsOfAll() {
        int rings = 0;
        for (int i = 0; i < samples; i++) {
            for (int j = 0; j < samples; j++) {
                for (int k = 0; k < samples; k++) {
                    rings += margin(i, j) > 0 && margin(j, k) > 0 && margin(k, i) > 0 ? 1 : 0;
                }
            }
        }
        return rings / 3;
    }

    int sample(int sample, int what) {
        switch (what) {
            case 0:
                return points(sample);
            case 1:
                return rank(sample);
            case 2:
                return stable(sample) ? 1 : 0;
            case 3:
                return dominance(sample);
            case 4:
                return layers()[sample];
            default:
                findOrders();
                int place = 0;
                while (bestOrder[place] != sample) {
                    place++;
                }
                return place;
        }
    }

    int summary(int what) {
        switch (what) {
            case 0:
                findOrders();
                return disagreement;
            case 1:
                findOrders();
                return bestOrders;
            case 2:
                return layers()[samples];
            case 3:
                return topSet();
            case 4:
                return ringsOfAll();
            default:
                int stable = 0;
                for (int i = 0; i < samples; i++) {
                    stable += stable(i) ? 1 : 0;
                }
                return stable;
        }
    }

    int without(int listener, int sample, int what) {
        int weight = weights[listener];
        weights[listener] = 0;
        int answer = sample == -1 ? summary(what) : sample(sample, what);
        weights[listener] = weight;
        return answer;
    }

    // ---- listeners

    int rings(int listener) {
        int rings = 0;
        for (int i = 0; i < samples; i++) {
            for (int j = 0; j < samples; j++) {
                for (int k = 0; k < samples; k++) {
                    rings += prefers(listener, i, j) && prefers(listener, j, k)
                            && prefers(listener, k, i) ? 1 : 0;
                }
            }
        }
        return rings / 3;
    }

    boolean complete(int listener) {
        for (int i = 0; i < samples; i++) {
            for (int j = i + 1; j < samples; j++) {
                if (!prefers(listener, i, j) && !prefers(listener, j, i)) {
                    return false;
                }
            }
        }
        return true;
    }

    double consistency(int listener) {
        int[] most = {0, 1, 2, 5, 8, 14, 20};
        double possible = most[samples - 2];
        return possible == 0 ? 1.0 : 1.0 - rings(listener) / possible;
    }

    double agreement(int one, int other) {
        int same = 0;
        int against = 0;
        for (int i = 0; i < samples; i++) {
            for (int j = 0; j < samples; j++) {
                same += prefers(one, i, j) && prefers(other, i, j) ? 1 : 0;
                against += prefers(one, i, j) && prefers(other, j, i) ? 1 : 0;
            }
        }
        return same + against == 0 ? 0.0 : (same - against) / (double) (same + against);
    }

    // ---- chances

    private static BigInteger factorial(int n) {
        BigInteger product = BigInteger.ONE;
        for (int k = 2; k <= n; k++) {
            product = product.multiply(BigInteger.valueOf(k));
        }
        return product;
    }

    private static long coin(int one, int other) {
        int n = one + other;
        BigInteger sum = BigInteger.ZERO;
        for (int x = Math.max(one, other); x <= n; x++) {
            sum = sum.add(factorial(n).divide(factorial(x)).divide(factorial(n - x)));
        }
        BigInteger whole = BigInteger.TWO.pow(48);
        BigInteger chance = sum.multiply(BigInteger.TWO).multiply(whole)
                .divide(BigInteger.TWO.pow(n));
        return n == 0 ? whole.longValue() : chance.min(whole).longValue();
    }

    long chance(int i, int j) {
        return coin(wins(i, j), wins(j, i));
    }

    long placeChance() {
        return coin((int) comparisons.stream().filter(c -> c.answer() == 1).count(),
                (int) comparisons.stream().filter(c -> c.answer() == 2).count());
    }

    List<int[]> proved(int level) {
        List<int[]> pairs = new ArrayList<>();
        for (int i = 0; i < samples; i++) {
            for (int j = i + 1; j < samples; j++) {
                if (wins(i, j) + wins(j, i) > 0) {
                    pairs.add(new int[] {i, j});
                }
            }
        }
        pairs.sort(Comparator.comparingLong((int[] pair) -> chance(pair[0], pair[1]))
                .thenComparingInt(pair -> pair[0]).thenComparingInt(pair -> pair[1]));
        List<int[]> proved = new ArrayList<>();
        for (int[] pair : pairs) {
            BigInteger left = BigInteger.valueOf(chance(pair[0], pair[1]))
                    .multiply(BigInteger.valueOf(1000L * (pairs.size() - proved.size())));
            if (left.compareTo(BigInteger.TWO.pow(48).multiply(BigInteger.valueOf(level))) > 0) {
                break;
            }
            proved.add(pair);
        }
        return proved;
    }

    int named(int[] pair) {
        return wins(pair[1], pair[0]) > wins(pair[0], pair[1])
                ? 10 * pair[1] + pair[0]
                : 10 * pair[0] + pair[1];
    }

    // ---- strengths

    private double w(int i) {
        int wins = 0;
        int ties = 0;
        for (int j = 0; j < samples; j++) {
            wins += wins(i, j);
            ties += i == j ? 0 : ties(i, j);
        }
        return wins + 0.5 * ties;
    }

    private int n(int i, int j) {
        return (int) comparisons.stream().filter(c -> c.of(i, j)).count();
    }

    double[] strengths(int rounds) {
        double[] strength = new double[samples];
        Arrays.fill(strength, 1.0);
        for (int round = 0; round < rounds; round++) {
            double[] next = new double[samples];
            double t = 0.0;
            for (int i = 0; i < samples; i++) {
                double s = 0.0;
                for (int j = 0; j < samples; j++) {
                    if (j != i && n(i, j) > 0 && strength[i] + strength[j] > 0.0) {
                        s = s + n(i, j) / (strength[i] + strength[j]);
                    }
                }
                next[i] = s > 0.0 ? w(i) / s : strength[i];
                t = t + next[i];
            }
            for (int i = 0; i < samples; i++) {
                strength[i] = t > 0.0 ? next[i] * (samples / t) : next[i];
            }
        }
        return strength;
    }

    double misfit(int rounds) {
        double[] strength = strengths(rounds);
        double sum = 0.0;
        for (int i = 0; i < samples; i++) {
            double expected = 0.0;
            for (int j = 0; j < samples; j++) {
                if (j != i && n(i, j) > 0 && strength[i] + strength[j] > 0.0) {
                    expected = expected + n(i, j) * strength[i] / (strength[i] + strength[j]);
                }
            }
            sum = sum + (w(i) - expected) * (w(i) - expected);
        }
        return sum;
    }

    long digest() {
        List<Long> values = new ArrayList<>();
        for (int what = 0; what < 8; what++) {
            values.add((long) count(what));
        }
        for (int listener = 0; listener < listeners; listener++) {
            values.add((long) weights[listener]);
            values.add((long) rings(listener));
        }
        for (Comparison c : comparisons) {
            for (int value : new int[] {c.listener(), c.first(), c.second(), c.answer()}) {
                values.add((long) value);
            }
        }
        for (int[] trial : plan == null ? List.<int[]>of() : plan.trials()) {
            values.add((long) trial[0]);
            values.add((long) trial[1]);
        }
        double[] strengths = strengths(8);
        for (int i = 0; i < samples; i++) {
            for (int what = 0; what < 6; what++) {
                values.add((long) sample(i, what));
            }
            values.add((long) Math.floor(strengths[i] * 1000000.0));
        }
        for (int what = 0; what < 6; what++) {
            values.add((long) summary(what));
        }
        for (int i = 0; i < samples; i++) {
            for (int j = i + 1; j < samples; j++) {
                values.add((long) margin(i, j));
                values.add(chance(i, j));
            }
        }
        values.add(placeChance());
        values.add((long) proved(50).size());
        values.add((long) buffer.length());
        buffer.chars().forEach(code -> values.add((long) code));
        return values.stream().reduce(1889L, (hash, value) -> 31 * hash + value);
    }
}
