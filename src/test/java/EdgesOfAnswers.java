/** Sentences of promises 14 to 16: count, comparison, result. */
final class EdgesOfAnswers {
    private static final Class<?> INDEX = IndexOutOfBoundsException.class;
    private static final Class<?> ARGUMENT = IllegalArgumentException.class;

    private EdgesOfAnswers() { }

    static void run(Check check) {
        count(check);
        comparison(check);
        wins(check);
        preferences(check);
        result(check);
        resultRefused(check);
    }

    private static int[] resultsOf(ListeningTrials x, int i, int j) {
        return new int[] {
            x.result(i, j, 0), x.result(i, j, 1), x.result(i, j, 2), x.result(i, j, 3)};
    }

    private static void count(Check check) {
        check.edge(14, "Returns a count.", x -> {
            check.dueRow("of a new object", Check.countsOf(x), 3, 2, 0, 0, 0, 0, 0, -1);
            check.dueRow("of a full one", Check.countsOf(Check.full()), 8, 8, 48, 17, 16, 52, 12, 7);
        });
        check.edge(14, "`what`: 0: samples; 1: listeners; 2: comparisons; 3: ties; 4: comparisons in "
                + "which the first sample was preferred; 5: trials of the plan that are left, 0 if "
                + "there is no plan; 6: steps that can be undone; 7: the listener of the plan, NONE "
                + "if there is no plan", x -> {
            x.begin(5, 4);
            check.due("no plan: trials", x.count(5), 0);
            check.due("no plan: listener", x.count(7), ListeningTrials.NONE);
            Check.load(x, "0:a=b,b=c,c>d,d>e,e>a;1:a<b");
            x.plan(3, 2, 1);
            x.answer(2);
            check.dueRow("counts", Check.countsOf(x), 5, 4, 7, 2, 3, 19, 2, 3);
            x.begin(2, 1);
            x.plan(0, 1, 1);
            x.answer(2);
            check.dueRow("an answered plan", Check.countsOf(x), 2, 1, 1, 0, 0, 0, 1, 0);
        });
        check.edge(14, "Returns the count.", x -> {
            Check.repeat(x, 48, 0, 1, 0);
            check.due("the most ties", x.count(3), 48);
            check.due("none preferred", x.count(4), 0);
            x.begin(3, 2);
            Check.repeat(x, 48, 0, 1, 1);
            check.due("the first one always", x.count(4), 48);
            check.due("no ties", x.count(3), 0);
            check.due("the most steps", x.count(6), 12);
        });
        check.edge(14, "Throws `IllegalArgumentException` if what is not 0 to 7", x -> {
            check.dueTaken("count", 0, 7, n -> x.count(n));
            check.dueBeyond(x, "count", ARGUMENT, 0, 7, n -> x.count(n));
        });
    }

    private static void comparison(Check check) {
        check.edge(15, "Returns a property of a comparison.", x -> {
            x.compare(1, 2, 0, 1);
            check.dueRow("the first one", Check.comparisonOf(x, 0), 1, 2, 0, 1);
        });
        check.edge(15, "`comparison`: number of the comparison", x -> {
            x.compare(0, 0, 1, 2);
            Check.repeat(x, 46, 1, 2, 0);
            x.compare(1, 2, 1, 1);
            check.dueRow("the first one", Check.comparisonOf(x, 0), 0, 0, 1, 2);
            check.dueRow("the last one", Check.comparisonOf(x, 47), 1, 2, 1, 1);
        });
        check.edge(15, "`what`: 0: the listener; 1: the first sample; 2: the second sample; 3: the "
                + "answer", x -> {
            x.begin(8, 8);
            x.compare(7, 6, 5, 2);
            x.compare(0, 0, 7, 0);
            x.compare(7, 7, 0, 2);
            check.dueRow("four different ones", Check.comparisonOf(x, 0), 7, 6, 5, 2);
            check.dueRow("the least ones", Check.comparisonOf(x, 1), 0, 0, 7, 0);
            check.dueRow("the greatest ones", Check.comparisonOf(x, 2), 7, 7, 0, 2);
        });
        check.edge(15, "Returns the property.", x -> {
            for (int answer = 0; answer <= 2; answer++) {
                x.compare(0, 1, 2, answer);
                check.due("answer " + answer, x.comparison(answer, 3), answer);
            }
        });
        check.edge(15, "Throws `IndexOutOfBoundsException` if the comparison does not exist", x -> {
            check.dueBeyond(x, "of none", INDEX, 0, -1, n -> x.comparison(n, 0));
            x.compare(0, 0, 1, 1);
            check.dueBeyond(x, "of one", INDEX, 0, 0, n -> x.comparison(n, 3));
            x.undo();
            check.dueIndex(x, "of one undone", () -> x.comparison(0, 0));
            ListeningTrials full = Check.full();
            check.dueBeyond(full, "of 48", INDEX, 0, 47, n -> full.comparison(n, 0));
        });
        check.edge(15, "Throws `IllegalArgumentException` if what is not 0 to 3", x -> {
            x.compare(0, 0, 1, 1);
            check.dueTaken("comparison", 0, 3, n -> x.comparison(0, n));
            check.dueBeyond(x, "comparison", ARGUMENT, 0, 3, n -> x.comparison(0, n));
        });
    }

    private static void wins(Check check) {
        check.edge(16, "The wins of a sample i over a sample j are the comparisons of both in which "
                + "i was preferred.", x -> {
            Check.load(x, "0:a>b,b<a;1:a=b,b>a,a>c,c>b");
            check.due("of a over b, in both orders", x.result(0, 1, 0), 2);
            check.due("of b over a", x.result(1, 0, 0), 1);
            check.due("of c over a", x.result(2, 0, 0), 0);
            x.begin(2, 1);
            Check.repeat(x, 48, 1, 0, 2);
            check.due("the most", x.result(0, 1, 0), 48);
        });
        check.edge(16, "The margin of i over j is the sum of the weights of the listeners of the "
                + "wins of i over j, minus the sum of the weights of the listeners of the wins of j "
                + "over i.", x -> {
            x.setWeight(0, 9);
            x.setWeight(1, 0);
            Check.load(x, "0:a>b,a=b;1:b>a,b>a,c>b");
            check.due("a over b", x.result(0, 1, 2), 9);
            check.due("b over a", x.result(1, 0, 2), -9);
            check.due("c over b, of weight 0", x.result(2, 1, 2), 0);
            x.setWeight(1, 5);
            check.due("a over b, as weighed then", x.result(0, 1, 2), -1);
            x.begin(2, 1);
            x.setWeight(0, 9);
            Check.repeat(x, 48, 0, 1, 1);
            check.due("the greatest", x.result(0, 1, 2), 432);
            check.due("the least", x.result(1, 0, 2), -432);
        });
    }

    private static void preferences(Check check) {
        check.edge(16, "A listener prefers i to j if the listener has more wins of i over j than of "
                + "j over i.", x -> {
            x.setWeight(0, 0);
            check.due("no wins", x.result(0, 1, 3), 0);
            Check.load(x, "0:a>b,b>a");
            check.due("as many: a", x.result(0, 1, 3), 0);
            check.due("as many: b", x.result(1, 0, 3), 0);
            x.compare(0, 1, 0, 2);
            check.due("one more, of weight 0", x.result(0, 1, 3), 1);
            check.due("one less", x.result(1, 0, 3), 0);
            x.compare(1, 1, 0, 1);
            check.due("another listener", x.result(1, 0, 3), 1);
        });
    }

    private static void result(Check check) {
        check.edge(16, "Returns a result of two samples.", x -> {
            check.dueRow("nothing there", resultsOf(x, 0, 2), 0, 0, 0, 0);
            x.setWeight(1, 4);
            Check.load(x, "0:c>a,c=a;1:a>c");
            check.dueRow("a, c", resultsOf(x, 0, 2), 1, 1, 3, 1);
            check.dueRow("c, a", resultsOf(x, 2, 0), 1, 1, -3, 1);
        });
        check.edge(16, "`i`: sample number", x -> {
            x.begin(8, 1);
            x.compare(0, 0, 7, 1);
            check.dueTaken("result", 0, 7, n -> x.result(n, 3, 0));
            check.due("the first one", x.result(0, 7, 0), 1);
            check.due("the last one", x.result(7, 0, 2), -1);
        });
        check.edge(16, "`j`: sample number, also the same", x -> {
            ListeningTrials full = Check.full();
            for (int i = 0; i < 8; i++) {
                int same = i;
                check.dueTaken("result", 0, 3, n -> full.result(same, same, n));
                check.dueTaken("result", 0, 7, n -> full.result(same, n, 0));
            }
        });
        check.edge(16, "`what`: 0: the wins of i over j; 1: the ties of both; 2: the margin of i "
                + "over j (0 to 2: 0 if both are the same); 3: the number of listeners who prefer i "
                + "to j", x -> {
            ListeningTrials full = Check.full();
            for (int i = 0; i < 8; i++) {
                check.dueRow("both are " + i, resultsOf(full, i, i), 0, 0, 0, 0);
            }
            x.begin(2, 8);
            x.setWeight(0, 2);
            for (int listener = 0; listener < 8; listener++) {
                x.compare(listener, 1, 0, 1);
            }
            x.compare(7, 0, 1, 0);
            check.dueRow("all listeners for b", resultsOf(x, 1, 0), 8, 1, 9, 8);
            check.dueRow("none for a", resultsOf(x, 0, 1), 0, 1, -9, 0);
        });
        check.edge(16, "Returns the result.", x -> {
            x.begin(2, 1);
            Check.repeat(x, 48, 0, 1, 0);
            check.dueRow("the most ties", resultsOf(x, 0, 1), 0, 48, 0, 0);
        });
    }

    private static void resultRefused(Check check) {
        check.edge(16, "Throws `IndexOutOfBoundsException` if a sample does not exist", x -> {
            x.compare(0, 0, 1, 1);
            check.dueBeyond(x, "i of 3", INDEX, 0, 2, n -> x.result(n, 0, 0));
            check.dueBeyond(x, "j of 3", INDEX, 0, 2, n -> x.result(0, n, 3));
            check.dueIndex(x, "the same, not there", () -> x.result(3, 3, 0));
            x.begin(8, 1);
            check.dueBeyond(x, "i of 8", INDEX, 0, 7, n -> x.result(n, 0, 2));
            check.dueBeyond(x, "j of 8", INDEX, 0, 7, n -> x.result(0, n, 1));
        });
        check.edge(16, "Throws `IllegalArgumentException` if what is not 0 to 3", x -> {
            check.dueBeyond(x, "result", ARGUMENT, 0, 3, n -> x.result(0, 1, n));
            check.dueBeyond(x, "result of the same", ARGUMENT, 0, 3, n -> x.result(1, 1, n));
        });
    }
}
