import java.io.IOException;
import java.nio.file.Path;
import java.util.List;

/**
 * For each sentence of the document a test of its own, at the edges that the sentence names. Each
 * test says which promise and which sentence it stands for; a sentence that stands in the document
 * and in no test, or in a test and not in the document, is a fault too.
 */
public final class EdgesTest {
    private static final Check CHECK = new Check("EdgesTest");

    /** Sentences that lead to others and promise nothing themselves. */
    private static final List<String> LEADING = List.of(
            "An evaluation of listening trials: listeners compare sound samples in pairs, in an "
                    + "order that is hidden from them.",
            "The class makes random plans of trials, collects the answers, ranks the samples in "
                    + "several ways (by points, by majorities, by an order of least disagreement, "
                    + "by fitted strengths), finds contradictory rings of answers, measures how "
                    + "consistent listeners are, and computes exact chances of differences.",
            "The constructor and the methods follow, a promise each: the signature, then what it "
                    + "does.");

    public static void main(String[] args) throws IOException {
        EdgesOfTrials.run(CHECK);
        EdgesOfPlans.run(CHECK);
        EdgesOfSteps.run(CHECK);
        EdgesOfTexts.run(CHECK);
        EdgesOfAnswers.run(CHECK);
        EdgesOfRanks.run(CHECK);
        EdgesOfOrders.run(CHECK);
        EdgesOfListeners.run(CHECK);
        EdgesOfChances.run(CHECK);
        EdgesOfStrengths.run(CHECK);
        EdgesOfDigest.run(CHECK);
        EdgesOfExceptions.run(CHECK);
        quotes(new Document(Path.of("../shared/DOC.md")));
        CHECK.end();
    }

    private static void quotes(Document document) {
        for (Document.Sentence quoted : CHECK.tested()) {
            CHECK.dueTrue("the document does not say " + quoted,
                    document.has(quoted.promise(), quoted.text()));
        }
        for (Document.Sentence said : document.sentences()) {
            CHECK.dueTrue("no test stands for " + said, LEADING.contains(said.text()) || isTested(said));
        }
    }

    /** What is said of the whole class may be tested with any promise. */
    private static boolean isTested(Document.Sentence said) {
        return CHECK.tested().stream().anyMatch(quoted -> quoted.text().equals(said.text())
                && (said.promise() == 0 || said.promise() == quoted.promise()));
    }
}
