import java.util.ArrayList;
import java.util.List;
import java.util.Random;

/**
 * Random runs of valid and wrong calls, on the class and on the oracle; every answer and every
 * exception must be the same. The seeds are fixed, so a failure comes again.
 */
public final class RandomRunsTest {
    private static final Check CHECK = new Check("RandomRunsTest");
    private static final String STATE = "IllegalStateException";
    private static final String ARGUMENT = "IllegalArgumentException";
    private static final String INDEX = "IndexOutOfBoundsException";

    private interface Asked {
        Object of();
    }

    private final Random random;
    private final ListeningTrials x = new ListeningTrials();
    private final Oracle o = new Oracle();
    private final List<String> calls = new ArrayList<>();
    private final int most;
    private boolean failed = false;

    private RandomRunsTest(int seed) {
        random = new Random(seed);
        most = seed % 10 == 0 ? 8 : 2 + seed % 5;
    }

    public static void main(String[] args) {
        int runs = args.length > 0 ? Integer.parseInt(args[0]) : 120;
        for (int seed = 0; seed < runs; seed++) {
            new RandomRunsTest(seed).run(seed);
        }
        CHECK.end();
    }

    private void run(int seed) {
        int length = seed % 10 == 0 ? 120 : 512;
        begin();
        for (int k = 1; k < length && !failed; k++) {
            int kind = random.nextInt(100);
            if (kind < 45) {
                change();
            } else if (kind < 65) {
                text();
            } else {
                ask();
            }
        }
        if (!failed) {
            compareAnswers("digest()", null, o.digest(), () -> x.digest());
        }
    }

    /** The due answer, or the name of the due exception, against what the class does. */
    private boolean compareAnswers(String call, String exception, Object due, Asked asked) {
        calls.add(call);
        Object want = exception != null ? exception : due;
        Object got;
        try {
            got = asked.of();
        } catch (RuntimeException e) {
            got = e.getClass().getSimpleName();
        }
        boolean same = got.equals(want);
        if (!same) {
            failed = true;
            CHECK.dueTrue(call + " answered " + got + ", due is " + want + " after " + calls, false);
        } else {
            CHECK.dueTrue(call, true);
        }
        return same && exception == null;
    }

    /** A number below the size, now and then a wrong one. */
    private int number(int size) {
        int[] wrong = {-1, -2, size, size + 1, Integer.MAX_VALUE, Integer.MIN_VALUE};
        return size == 0 || random.nextInt(25) == 0
                ? wrong[random.nextInt(wrong.length)]
                : random.nextInt(size);
    }

    private static boolean in(int number, int size) {
        return number >= 0 && number < size;
    }

    private static String first(boolean one, String name, boolean two, String otherName) {
        return one ? name : two ? otherName : null;
    }

    // ---- calls that change something

    private void change() {
        int kind = random.nextInt(100);
        if (kind < 1) {
            begin();
        } else if (kind < 8) {
            setWeight();
        } else if (kind < 15) {
            plan();
        } else if (kind < 40) {
            answer();
        } else if (kind < 75) {
            compare();
        } else if (kind < 85) {
            remove();
        } else {
            undo();
        }
    }

    private void begin() {
        int samples = random.nextInt(12) == 0 ? number(9) : 2 + random.nextInt(most - 1);
        int listeners = random.nextInt(12) == 0 ? number(9) : 1 + random.nextInt(4);
        boolean wrong = samples < 2 || samples > 8 || listeners < 1 || listeners > 8;
        if (compareAnswers("begin(" + samples + ", " + listeners + ")", wrong ? ARGUMENT : null,
                samples * (samples - 1) / 2, () -> x.begin(samples, listeners))) {
            o.begin(samples, listeners);
        }
    }

    private void setWeight() {
        int listener = number(o.listeners);
        int weight = number(10);
        boolean there = in(listener, o.listeners);
        if (compareAnswers("setWeight(" + listener + ", " + weight + ")",
                first(!there, INDEX, !in(weight, 10), ARGUMENT),
                there ? o.weights[listener] : 0, () -> x.setWeight(listener, weight))) {
            o.weights[listener] = weight;
        }
    }

    private void plan() {
        int listener = number(o.listeners);
        int repeats = 1 + number(2);
        int seed = random.nextInt(20) == 0 ? -random.nextInt(3) : random.nextInt() >>> 1;
        boolean wrong = repeats < 1 || repeats > 2 || seed < 0;
        String call = "plan(" + listener + ", " + repeats + ", " + seed + ")";
        if (compareAnswers(call, first(!in(listener, o.listeners), INDEX, wrong, ARGUMENT),
                repeats * (o.samples * (o.samples - 1) / 2),
                () -> x.plan(listener, repeats, seed))) {
            o.plan(listener, repeats, seed);
        }
    }

    private void answer() {
        int answer = number(3);
        boolean none = o.trialsLeft() == 0 || o.comparisons.size() == 48;
        if (compareAnswers("answer(" + answer + ")",
                first(none, STATE, !in(answer, 3), ARGUMENT), o.trialsLeft() - 1,
                () -> x.answer(answer))) {
            o.answer(answer);
        }
    }

    private void compare() {
        int listener = number(o.listeners);
        int one = number(o.samples);
        int other = number(o.samples);
        int answer = number(3);
        boolean none = !in(listener, o.listeners) || !in(one, o.samples) || !in(other, o.samples);
        String exception = first(none, INDEX, one == other || !in(answer, 3), ARGUMENT);
        if (exception == null && o.comparisons.size() == 48) {
            exception = STATE;
        }
        if (compareAnswers("compare(" + listener + ", " + one + ", " + other + ", " + answer + ")",
                exception, o.comparisons.size(), () -> x.compare(listener, one, other, answer))) {
            o.add(List.of(new Oracle.Comparison(listener, one, other, answer)));
        }
    }

    private void remove() {
        int number = number(o.comparisons.size());
        if (compareAnswers("remove(" + number + ")",
                in(number, o.comparisons.size()) ? null : INDEX, o.comparisons.size() - 1,
                () -> x.remove(number))) {
            o.remove(number);
        }
    }

    private void undo() {
        boolean none = o.steps.isEmpty();
        if (compareAnswers("undo()", none ? STATE : null,
                none ? 0 : o.steps.getLast().comparisons().size(), () -> x.undo())) {
            o.undo();
        }
    }

    // ---- texts

    private void text() {
        int kind = random.nextInt(10);
        if (kind < 3) {
            for (char code : randomText().toCharArray()) {
                append(code);
            }
        } else if (kind < 5) {
            append(random.nextInt(8) == 0 ? number(128) : "01:;,<>=abc!".charAt(
                    random.nextInt(12)));
        } else if (kind < 6) {
            compareAnswers("clearBuffer()", null, o.buffer.length(), () -> x.clearBuffer());
            o.buffer = "";
        } else if (kind < 8) {
            compareAnswers("firstError()", null, o.firstError(), () -> x.firstError());
        } else {
            load();
        }
    }

    private String randomText() {
        StringBuilder text = new StringBuilder();
        if (o.isComplete()) {
            text.append(random.nextBoolean() ? ',' : ';');
        }
        if (text.length() == 0 || text.charAt(0) == ';') {
            text.append(random.nextInt(o.listeners)).append(':');
        }
        int one = random.nextInt(o.samples);
        int other = (one + 1 + random.nextInt(o.samples - 1)) % o.samples;
        text.append((char) ('a' + one)).append("<>=".charAt(random.nextInt(3)))
                .append((char) ('a' + other));
        return text.toString();
    }

    private void append(int code) {
        boolean full = o.buffer.length() == 60;
        if (compareAnswers("append(" + code + ")",
                first(code < 33 || code > 126, ARGUMENT, full, STATE), o.buffer.length() + 1,
                () -> x.append(code))) {
            o.buffer += (char) code;
        }
    }

    private void load() {
        boolean complete = o.isComplete();
        List<Oracle.Comparison> read = complete ? o.read() : List.of();
        if (compareAnswers("load()", first(!complete, ARGUMENT,
                o.comparisons.size() + read.size() > 48, STATE), read.size(), () -> x.load())) {
            o.add(read);
            o.buffer = "";
        }
    }

    // ---- questions

    private void ask() {
        switch (random.nextInt(9)) {
            case 0 -> askCounts();
            case 1 -> askTrial();
            case 2 -> askResult();
            case 3 -> askRanks();
            case 4 -> askWithout();
            case 5 -> askListeners();
            case 6 -> askChances();
            case 7 -> askStrengths();
            default -> {
                if (random.nextInt(4) == 0) {
                    compareAnswers("digest()", null, o.digest(), () -> x.digest());
                }
            }
        }
    }

    private void askCounts() {
        int what = number(8);
        compareAnswers("count(" + what + ")", in(what, 8) ? null : ARGUMENT, o.count(what),
                () -> x.count(what));
        int number = number(o.comparisons.size());
        int property = number(4);
        boolean there = in(number, o.comparisons.size());
        compareAnswers("comparison(" + number + ", " + property + ")",
                first(!there, INDEX, !in(property, 4), ARGUMENT),
                there && in(property, 4) ? o.comparison(number, property) : 0,
                () -> x.comparison(number, property));
    }

    private void askTrial() {
        int size = o.plan == null ? 0 : o.plan.trials().size();
        int number = number(size);
        boolean second = random.nextBoolean();
        compareAnswers("trial(" + number + ", " + second + ")",
                first(o.plan == null, STATE, !in(number, size), INDEX),
                in(number, size) ? o.plan.trials().get(number)[second ? 1 : 0] : 0,
                () -> x.trial(number, second));
    }

    private void askResult() {
        int i = number(o.samples);
        int j = number(o.samples);
        int what = number(4);
        boolean none = !in(i, o.samples) || !in(j, o.samples);
        compareAnswers("result(" + i + ", " + j + ", " + what + ")",
                first(none, INDEX, !in(what, 4), ARGUMENT), none ? 0 : o.result(i, j, what),
                () -> x.result(i, j, what));
    }

    private void askRanks() {
        int sample = number(o.samples);
        int what = number(6);
        boolean there = in(sample, o.samples);
        compareAnswers("sample(" + sample + ", " + what + ")",
                first(!there, INDEX, !in(what, 6), ARGUMENT),
                there && in(what, 6) ? o.sample(sample, what) : 0, () -> x.sample(sample, what));
        compareAnswers("order(" + sample + ")", there ? null : INDEX,
                there ? o.order(sample) : 0, () -> x.order(sample));
        compareAnswers("summary(" + what + ")", in(what, 6) ? null : ARGUMENT,
                in(what, 6) ? o.summary(what) : 0, () -> x.summary(what));
    }

    private void askWithout() {
        int listener = number(o.listeners);
        int sample = random.nextInt(3) == 0 ? -1 : number(o.samples);
        int what = number(6);
        boolean there = in(listener, o.listeners) && (sample == -1 || in(sample, o.samples));
        compareAnswers("without(" + listener + ", " + sample + ", " + what + ")",
                first(!there, INDEX, !in(what, 6), ARGUMENT),
                there && in(what, 6) ? o.without(listener, sample, what) : 0,
                () -> x.without(listener, sample, what));
    }

    private void askListeners() {
        int one = number(o.listeners);
        int other = number(o.listeners);
        boolean there = in(one, o.listeners);
        boolean complete = there && o.complete(one);
        compareAnswers("rings(" + one + ")", there ? null : INDEX, there ? o.rings(one) : 0,
                () -> x.rings(one));
        compareAnswers("consistency(" + one + ")", first(!there, INDEX, !complete, STATE),
                complete ? o.consistency(one) : 0.0, () -> x.consistency(one));
        boolean both = there && in(other, o.listeners);
        compareAnswers("agreement(" + one + ", " + other + ")", both ? null : INDEX,
                both ? o.agreement(one, other) : 0.0, () -> x.agreement(one, other));
    }

    private void askChances() {
        int i = number(o.samples);
        int j = number(o.samples);
        boolean there = in(i, o.samples) && in(j, o.samples);
        compareAnswers("chance(" + i + ", " + j + ")", first(!there, INDEX, i == j, ARGUMENT),
                there && i != j ? o.chance(i, j) : 0L, () -> x.chance(i, j));
        compareAnswers("placeChance()", null, o.placeChance(), () -> x.placeChance());
        int level = random.nextInt(15) == 0 ? number(1001) : 1 + random.nextInt(1000);
        List<int[]> proved = in(level - 1, 1000) ? o.proved(level) : List.of();
        int index = random.nextInt(3) == 0 ? -1 : number(proved.size());
        boolean wrong = index != -1 && !in(index, proved.size());
        compareAnswers("proved(" + level + ", " + index + ")",
                first(!in(level - 1, 1000), ARGUMENT, wrong, INDEX),
                index == -1 ? proved.size() : wrong ? 0 : o.named(proved.get(index)),
                () -> x.proved(level, index));
    }

    private void askStrengths() {
        int sample = number(o.samples);
        int rounds = number(61);
        boolean there = in(sample, o.samples);
        boolean wrong = !in(rounds, 61);
        compareAnswers("strength(" + sample + ", " + rounds + ")",
                first(!there, INDEX, wrong, ARGUMENT),
                there && !wrong ? o.strengths(rounds)[sample] : 0.0,
                () -> x.strength(sample, rounds));
        compareAnswers("misfit(" + rounds + ")", wrong ? ARGUMENT : null,
                wrong ? 0.0 : o.misfit(rounds), () -> x.misfit(rounds));
    }
}
