import java.io.IOException;
import java.nio.file.Files;
import java.nio.file.Path;
import java.util.ArrayList;
import java.util.List;

/** The sentences of ../shared/DOC.md, so that tests can say which of them they stand for. */
final class Document {
    /** Promise 0 stands for what is said of the whole class, in front of the promises. */
    record Sentence(int promise, String text) { }

    private final List<Sentence> sentences = new ArrayList<>();

    Document(Path path) throws IOException {
        int promise = 0;
        boolean told = true;
        boolean code = false;
        for (String line : Files.readAllLines(path)) {
            if (line.startsWith("```")) {
                code = !code;
            } else if (line.startsWith("## ")) {
                promise = promiseOf(line);
                told = !line.equals("## Not promised");
            } else if (told && !code && !isMark(line)) {
                addSentences(promise, line.strip());
            }
        }
    }

    List<Sentence> sentences() {
        return sentences;
    }

    boolean has(int promise, String text) {
        return sentences.contains(new Sentence(promise, text))
                || sentences.contains(new Sentence(0, text));
    }

    private static int promiseOf(String heading) {
        String start = "## Promise ";
        return heading.startsWith(start)
                ? Integer.parseInt(heading.substring(start.length(), heading.indexOf(':')))
                : 0;
    }

    /** Titles, signatures and lines between groups say nothing that could be broken. */
    private static boolean isMark(String line) {
        return line.isBlank() || line.startsWith("#") || line.startsWith("`")
                || line.startsWith("----");
    }

    private void addSentences(int promise, String line) {
        String text = line.startsWith("- ") ? line.substring(2) : line;
        for (String sentence : text.split("(?<=[.)])\\s+(?=[A-Z(])")) {
            if (!isTitle(sentence)) {
                sentences.add(new Sentence(promise, sentence));
            }
        }
    }

    /** Such as "Points and ranks." in front of the sentences about them. */
    private static boolean isTitle(String sentence) {
        return sentence.matches("[A-Z][a-z]+\\.|[A-Z][a-z]+ (and )?[a-z]+[.:]");
    }
}
