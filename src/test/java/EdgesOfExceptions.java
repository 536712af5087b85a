import java.util.ArrayList;
import java.util.List;

/** Sentences about exceptions, which hold for every promise that has a throws clause. */
final class EdgesOfExceptions {
    private static final Class<?> INDEX = IndexOutOfBoundsException.class;
    private static final Class<?> ARGUMENT = IllegalArgumentException.class;
    private static final Class<?> STATE = IllegalStateException.class;
    private static final int MIN = Integer.MIN_VALUE;
    private static final int MAX = Integer.MAX_VALUE;
    private static final String NOTHING = "A call that throws an exception changes nothing.";
    private static final String FIRST = "If several exceptions apply, the one that is named first in "
            + "the throws clause is thrown.";

    private EdgesOfExceptions() { }

    /** A call that is refused, with the exception that is due. */
    private record Refused(int promise, String call, Class<?> kind, Check.Test run) { }

    static void run(Check check) {
        for (Refused refused : ofFullOne()) {
            check.edge(refused.promise(), NOTHING, x -> {
                ListeningTrials full = Check.full();
                dueRefused(check, full, refused);
                dueSame(check, refused.call(), full, Check.full());
            });
        }
        for (Refused refused : ofNewOne()) {
            check.edge(refused.promise(), NOTHING, x -> {
                dueRefused(check, x, refused);
                dueSame(check, refused.call(), x, new ListeningTrials());
            });
        }
        for (Refused refused : severalOfFullOne()) {
            check.edge(refused.promise(), FIRST, x -> dueRefused(check, Check.full(), refused));
        }
        for (Refused refused : severalOfNewOne()) {
            check.edge(refused.promise(), FIRST, x -> dueRefused(check, x, refused));
        }
        answeredPlan(check);
        loadOfAFullOne(check);
    }

    private static void answeredPlan(Check check) {
        check.edge(6, FIRST, x -> {
            x.begin(2, 1);
            x.plan(0, 1, 1);
            x.answer(0);
            check.dueState(x, "answer(-1) behind the last trial", () -> x.answer(-1));
            check.dueState(x, "answer(3) behind the last trial", () -> x.answer(3));
        });
    }

    private static ListeningTrials fullWithText(String text) {
        ListeningTrials full = Check.full();
        full.clearBuffer();
        Check.append(full, text);
        return full;
    }

    private static void loadOfAFullOne(Check check) {
        check.edge(13, NOTHING, x -> {
            ListeningTrials full = fullWithText("0:a>b");
            check.dueState(full, "load()", () -> full.load());
            dueSame(check, "load()", full, fullWithText("0:a>b"));
        });
        check.edge(13, FIRST, x -> {
            ListeningTrials full = fullWithText("0:a>b,");
            check.dueArgument(full, "load()", () -> full.load());
        });
    }

    private static void dueRefused(Check check, ListeningTrials x, Refused refused) {
        check.dueThrow(x, refused.call(), refused.kind(), () -> refused.run().run(x));
    }

    /** The same answers, also of the states that undo brings back, which the digest cannot tell. */
    private static void dueSame(Check check, String call, ListeningTrials x, ListeningTrials y) {
        check.due("digest behind " + call, x.digest(), y.digest());
        while (y.count(6) > 0 && x.count(6) > 0) {
            check.due("undo behind " + call, x.undo(), y.undo());
            check.due("digest behind undo behind " + call, x.digest(), y.digest());
        }
        check.due("buffer behind " + call, x.clearBuffer(), y.clearBuffer());
    }

    /** With 8 samples, 8 listeners, 48 comparisons, a plan of 56 trials and a full buffer. */
    private static List<Refused> ofFullOne() {
        List<Refused> all = new ArrayList<>();
        all.add(new Refused(2, "begin(9, 8)", ARGUMENT, x -> x.begin(9, 8)));
        all.add(new Refused(2, "begin(8, 9)", ARGUMENT, x -> x.begin(8, 9)));
        all.add(new Refused(3, "setWeight(8, 0)", INDEX, x -> x.setWeight(8, 0)));
        all.add(new Refused(3, "setWeight(7, 10)", ARGUMENT, x -> x.setWeight(7, 10)));
        all.add(new Refused(4, "plan(8, 1, 0)", INDEX, x -> x.plan(8, 1, 0)));
        all.add(new Refused(4, "plan(0, 3, 0)", ARGUMENT, x -> x.plan(0, 3, 0)));
        all.add(new Refused(4, "plan(0, 1, -1)", ARGUMENT, x -> x.plan(0, 1, -1)));
        all.add(new Refused(5, "trial(56, true)", INDEX, x -> x.trial(56, true)));
        all.add(new Refused(6, "answer(1)", STATE, x -> x.answer(1)));
        all.add(new Refused(7, "compare(8, 0, 1, 1)", INDEX, x -> x.compare(8, 0, 1, 1)));
        all.add(new Refused(7, "compare(0, 8, 1, 1)", INDEX, x -> x.compare(0, 8, 1, 1)));
        all.add(new Refused(7, "compare(0, 0, 8, 1)", INDEX, x -> x.compare(0, 0, 8, 1)));
        all.add(new Refused(7, "compare(0, 1, 1, 1)", ARGUMENT, x -> x.compare(0, 1, 1, 1)));
        all.add(new Refused(7, "compare(0, 0, 1, 3)", ARGUMENT, x -> x.compare(0, 0, 1, 3)));
        all.add(new Refused(7, "compare(0, 0, 1, 1)", STATE, x -> x.compare(0, 0, 1, 1)));
        all.add(new Refused(8, "remove(48)", INDEX, x -> x.remove(48)));
        all.add(new Refused(10, "append(127)", ARGUMENT, x -> x.append(127)));
        all.add(new Refused(10, "append('a')", STATE, x -> x.append('a')));
        all.add(new Refused(13, "load()", ARGUMENT, x -> x.load()));
        all.add(new Refused(14, "count(8)", ARGUMENT, x -> x.count(8)));
        all.add(new Refused(15, "comparison(48, 0)", INDEX, x -> x.comparison(48, 0)));
        all.add(new Refused(15, "comparison(47, 4)", ARGUMENT, x -> x.comparison(47, 4)));
        all.add(new Refused(16, "result(0, 8, 0)", INDEX, x -> x.result(0, 8, 0)));
        all.add(new Refused(16, "result(0, 7, 4)", ARGUMENT, x -> x.result(0, 7, 4)));
        all.add(new Refused(17, "sample(8, 0)", INDEX, x -> x.sample(8, 0)));
        all.add(new Refused(17, "sample(7, 6)", ARGUMENT, x -> x.sample(7, 6)));
        all.add(new Refused(18, "order(8)", INDEX, x -> x.order(8)));
        all.add(new Refused(19, "summary(6)", ARGUMENT, x -> x.summary(6)));
        all.add(new Refused(20, "without(8, 0, 0)", INDEX, x -> x.without(8, 0, 0)));
        all.add(new Refused(20, "without(0, 8, 0)", INDEX, x -> x.without(0, 8, 0)));
        all.add(new Refused(20, "without(0, 0, 6)", ARGUMENT, x -> x.without(0, 0, 6)));
        all.add(new Refused(21, "rings(8)", INDEX, x -> x.rings(8)));
        all.add(new Refused(22, "consistency(8)", INDEX, x -> x.consistency(8)));
        all.add(new Refused(22, "consistency(7)", STATE, x -> x.consistency(7)));
        all.add(new Refused(23, "agreement(0, 8)", INDEX, x -> x.agreement(0, 8)));
        all.add(new Refused(24, "chance(8, 0)", INDEX, x -> x.chance(8, 0)));
        all.add(new Refused(24, "chance(7, 7)", ARGUMENT, x -> x.chance(7, 7)));
        all.add(new Refused(26, "proved(1001, -1)", ARGUMENT, x -> x.proved(1001, -1)));
        all.add(new Refused(26, "proved(1000, 28)", INDEX, x -> x.proved(1000, 28)));
        all.add(new Refused(27, "strength(8, 0)", INDEX, x -> x.strength(8, 0)));
        all.add(new Refused(27, "strength(7, 61)", ARGUMENT, x -> x.strength(7, 61)));
        all.add(new Refused(28, "misfit(61)", ARGUMENT, x -> x.misfit(61)));
        return all;
    }

    /** Where nothing is there yet. */
    private static List<Refused> ofNewOne() {
        List<Refused> all = new ArrayList<>();
        all.add(new Refused(2, "begin(1, 1)", ARGUMENT, x -> x.begin(1, 1)));
        all.add(new Refused(2, "begin(2, 0)", ARGUMENT, x -> x.begin(2, 0)));
        all.add(new Refused(3, "setWeight(-1, 0)", INDEX, x -> x.setWeight(-1, 0)));
        all.add(new Refused(3, "setWeight(0, -1)", ARGUMENT, x -> x.setWeight(0, -1)));
        all.add(new Refused(4, "plan(0, 0, 0)", ARGUMENT, x -> x.plan(0, 0, 0)));
        all.add(new Refused(5, "trial(0, false)", STATE, x -> x.trial(0, false)));
        all.add(new Refused(6, "answer(0)", STATE, x -> x.answer(0)));
        all.add(new Refused(7, "compare(0, 0, 0, 0)", ARGUMENT, x -> x.compare(0, 0, 0, 0)));
        all.add(new Refused(8, "remove(0)", INDEX, x -> x.remove(0)));
        all.add(new Refused(9, "undo()", STATE, x -> x.undo()));
        all.add(new Refused(10, "append(32)", ARGUMENT, x -> x.append(32)));
        all.add(new Refused(13, "load()", ARGUMENT, x -> x.load()));
        all.add(new Refused(14, "count(-1)", ARGUMENT, x -> x.count(-1)));
        all.add(new Refused(15, "comparison(0, 0)", INDEX, x -> x.comparison(0, 0)));
        all.add(new Refused(18, "order(-1)", INDEX, x -> x.order(-1)));
        all.add(new Refused(20, "without(0, -2, 0)", INDEX, x -> x.without(0, -2, 0)));
        all.add(new Refused(22, "consistency(0)", STATE, x -> x.consistency(0)));
        all.add(new Refused(24, "chance(0, 0)", ARGUMENT, x -> x.chance(0, 0)));
        all.add(new Refused(26, "proved(1, 0)", INDEX, x -> x.proved(1, 0)));
        all.add(new Refused(27, "strength(0, -1)", ARGUMENT, x -> x.strength(0, -1)));
        all.add(new Refused(28, "misfit(-1)", ARGUMENT, x -> x.misfit(-1)));
        return all;
    }

    private static List<Refused> severalOfFullOne() {
        List<Refused> all = new ArrayList<>();
        all.add(new Refused(3, "setWeight(8, 10)", INDEX, x -> x.setWeight(8, 10)));
        all.add(new Refused(3, "setWeight(min, min)", INDEX, x -> x.setWeight(MIN, MIN)));
        all.add(new Refused(4, "plan(8, 3, 0)", INDEX, x -> x.plan(8, 3, 0)));
        all.add(new Refused(4, "plan(-1, 1, -1)", INDEX, x -> x.plan(-1, 1, -1)));
        all.add(new Refused(6, "answer(3)", STATE, x -> x.answer(3)));
        all.add(new Refused(6, "answer(-1)", STATE, x -> x.answer(-1)));
        all.add(new Refused(7, "compare(8, 0, 0, 1)", INDEX, x -> x.compare(8, 0, 0, 1)));
        all.add(new Refused(7, "compare(0, 8, 8, 1)", INDEX, x -> x.compare(0, 8, 8, 1)));
        all.add(new Refused(7, "compare(0, -1, -1, 1)", INDEX, x -> x.compare(0, -1, -1, 1)));
        all.add(new Refused(7, "compare(0, 0, 8, 3)", INDEX, x -> x.compare(0, 0, 8, 3)));
        all.add(new Refused(7, "compare(0, 8, 0, -1)", INDEX, x -> x.compare(0, 8, 0, -1)));
        all.add(new Refused(7, "compare(8, 0, 1, 0)", INDEX, x -> x.compare(8, 0, 1, 0)));
        all.add(new Refused(7, "compare(0, 7, 7, 0)", ARGUMENT, x -> x.compare(0, 7, 7, 0)));
        all.add(new Refused(7, "compare(0, 0, 7, 3)", ARGUMENT, x -> x.compare(0, 0, 7, 3)));
        all.add(new Refused(10, "append(32)", ARGUMENT, x -> x.append(32)));
        all.add(new Refused(10, "append(127)", ARGUMENT, x -> x.append(127)));
        all.add(new Refused(13, "load()", ARGUMENT, x -> x.load()));
        all.add(new Refused(15, "comparison(48, 4)", INDEX, x -> x.comparison(48, 4)));
        all.add(new Refused(16, "result(8, 0, 4)", INDEX, x -> x.result(8, 0, 4)));
        all.add(new Refused(16, "result(0, 8, -1)", INDEX, x -> x.result(0, 8, -1)));
        all.add(new Refused(17, "sample(8, 6)", INDEX, x -> x.sample(8, 6)));
        all.add(new Refused(20, "without(8, 0, 6)", INDEX, x -> x.without(8, 0, 6)));
        all.add(new Refused(20, "without(0, 8, 6)", INDEX, x -> x.without(0, 8, 6)));
        all.add(new Refused(20, "without(8, -1, -1)", INDEX, x -> x.without(8, -1, -1)));
        all.add(new Refused(22, "consistency(8)", INDEX, x -> x.consistency(8)));
        all.add(new Refused(24, "chance(8, 8)", INDEX, x -> x.chance(8, 8)));
        all.add(new Refused(24, "chance(-1, -1)", INDEX, x -> x.chance(-1, -1)));
        all.add(new Refused(26, "proved(1001, 28)", ARGUMENT, x -> x.proved(1001, 28)));
        all.add(new Refused(26, "proved(0, -2)", ARGUMENT, x -> x.proved(0, -2)));
        all.add(new Refused(27, "strength(8, 61)", INDEX, x -> x.strength(8, 61)));
        all.add(new Refused(27, "strength(-1, -1)", INDEX, x -> x.strength(-1, -1)));
        return all;
    }

    private static List<Refused> severalOfNewOne() {
        List<Refused> all = new ArrayList<>();
        all.add(new Refused(5, "trial(-1, false)", STATE, x -> x.trial(-1, false)));
        all.add(new Refused(5, "trial(max, true)", STATE, x -> x.trial(MAX, true)));
        all.add(new Refused(6, "answer(3)", STATE, x -> x.answer(3)));
        all.add(new Refused(15, "comparison(0, 4)", INDEX, x -> x.comparison(0, 4)));
        all.add(new Refused(22, "consistency(2)", INDEX, x -> x.consistency(2)));
        all.add(new Refused(22, "consistency(-1)", INDEX, x -> x.consistency(-1)));
        all.add(new Refused(26, "proved(0, 0)", ARGUMENT, x -> x.proved(0, 0)));
        return all;
    }
}
