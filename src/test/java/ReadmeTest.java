import java.io.IOException;
import java.lang.reflect.Modifier;
import java.nio.file.Files;
import java.nio.file.Path;
import java.util.ArrayList;
import java.util.Arrays;
import java.util.List;
import java.util.Set;
import java.util.TreeSet;
import java.util.regex.Matcher;
import java.util.regex.Pattern;
import java.util.stream.Collectors;
import java.util.stream.Stream;

/**
 * What README.md says is true: the answers of its example, its lists of calls and of tests, and each
 * sentence about .ci/run, which is tried on small projects of its own (see Sandbox).
 */
public final class ReadmeTest {
    private static final Check CHECK = new Check("ReadmeTest");
    private static final String RUNNING = "Running the tests";
    private static final String FIRST = "project/src/test/java/FirstTest.java";
    private static final String EARLY = "shared/tests/Early.java";

    private final List<String> readme = Files.readAllLines(Path.of("README.md"));
    private final List<Sandbox> sandboxes = new ArrayList<>();
    private final Set<String> quoted = new TreeSet<>();

    private ReadmeTest() throws IOException { }

    public static void main(String[] args) throws IOException, InterruptedException {
        ReadmeTest test = new ReadmeTest();
        try {
            test.example();
            test.calls();
            test.files();
            test.running();
            test.commands();
            test.quotes();
        } finally {
            for (Sandbox sandbox : test.sandboxes) {
                sandbox.delete();
            }
        }
        CHECK.end();
    }

    // ---- reading README.md

    private List<String> section(String title) {
        List<String> lines = new ArrayList<>();
        boolean inside = false;
        for (String line : readme) {
            if (line.startsWith("## ")) {
                inside = line.equals("## " + title);
            } else if (inside) {
                lines.add(line);
            }
        }
        return lines;
    }

    /** The lines of a section's blocks of a language, block after block. */
    private List<List<String>> blocks(String title, String language) {
        List<List<String>> blocks = new ArrayList<>();
        boolean inside = false;
        for (String line : section(title)) {
            if (line.startsWith("```")) {
                inside = line.equals("```" + language);
                if (inside) {
                    blocks.add(new ArrayList<>());
                }
            } else if (inside) {
                blocks.get(blocks.size() - 1).add(line);
            }
        }
        return blocks;
    }

    private static Set<String> named(String text) {
        Set<String> names = new TreeSet<>();
        Matcher name = Pattern.compile("`(\\w+)`").matcher(text);
        while (name.find()) {
            names.add(name.group(1));
        }
        return names;
    }

    /** What a column of a section's table names. */
    private Set<String> column(String title, int number) {
        Set<String> names = new TreeSet<>();
        for (String line : section(title)) {
            if (line.startsWith("| ")) {
                names.addAll(named(line.split("\\|")[number]));
            }
        }
        return names;
    }

    // ---- use

    private void example() throws IOException, InterruptedException {
        List<List<String>> blocks = blocks("Use", "java");
        CHECK.due("examples", blocks.size(), 1);
        StringBuilder code = new StringBuilder();
        int answers = 0;
        for (String line : blocks.get(0)) {
            Matcher call = Pattern.compile("(trials\\..*); +// (throws )?(\\S+): .+").matcher(line);
            boolean answered = call.matches();
            answers += answered ? 1 : 0;
            code.append(answered ? dueLine(call.group(1), call.group(3)) : line).append('\n');
            CHECK.dueTrue("no answer stands behind " + line, answered || !line.startsWith("trials"));
        }
        CHECK.dueTrue("the example has answers", answers > 0);
        Sandbox sandbox = sandbox(new Sandbox().put("project/Example.java", exampleClass(code)));
        sandbox.start("project", false, "java", "-cp",
                Path.of(System.getProperty("java.class.path")).toAbsolutePath().toString(),
                "Example.java");
        CHECK.dueTrue("the example: " + sandbox.told(), sandbox.exit() == 0);
        CHECK.dueTrue("the example checks each answer", sandbox.tells(answers + " answers"));
    }

    private static String dueLine(String call, String answer) {
        return "due(\"" + call + "\", \"" + answer + "\", () -> " + call + ");";
    }

    private static String exampleClass(CharSequence code) {
        return """
                public class Example {
                    static final int NONE = ListeningTrials.NONE;
                    static int answers = 0;
                    static int wrong = 0;
                    interface Call { Object of(); }
                    static void due(String call, String want, Call asked) {
                        String got;
                        try {
                            got = String.valueOf(asked.of());
                        } catch (RuntimeException e) {
                            got = e.getClass().getSimpleName();
                        }
                        answers++;
                        if (!got.equals(want)) {
                            wrong++;
                            System.out.println(call + " answered " + got + ", README says " + want);
                        }
                    }
                    public static void main(String[] args) {
                """ + code + """
                        System.out.println(answers + " answers");
                        System.exit(wrong == 0 ? 0 : 1);
                    }
                }
                """;
    }

    private void calls() {
        Set<String> face = Arrays.stream(ListeningTrials.class.getDeclaredMethods())
                .filter(method -> Modifier.isPublic(method.getModifiers()))
                .map(method -> method.getName()).collect(Collectors.toCollection(TreeSet::new));
        Set<String> told = column("Use", 2);
        CHECK.dueTrue("the calls are " + face + ", README says " + told, face.equals(told));
    }

    // ---- tests

    private void files() throws IOException {
        Set<String> files = new TreeSet<>();
        try (Stream<Path> all = Files.list(Path.of("src/test/java"))) {
            all.map(path -> path.getFileName().toString()).filter(name -> name.endsWith("Test.java"))
                    .forEach(name -> files.add(name.replace(".java", "")));
        }
        Set<String> told = column("What the tests are", 1);
        CHECK.dueTrue("the tests are " + files + ", README says " + told, files.equals(told));
    }

    private Sandbox sandbox(Sandbox made) {
        sandboxes.add(made);
        return made;
    }

    /** Stands for a sentence about running the tests, word for word. */
    private void says(String sentence, boolean holds) {
        quoted.add(sentence);
        CHECK.dueTrue("README is wrong: " + sentence, holds);
    }

    /** Each sentence must be quoted, and each quote must be a sentence. */
    private void quotes() {
        Set<String> told = new TreeSet<>();
        boolean code = false;
        for (String line : section(RUNNING)) {
            if (line.startsWith("```")) {
                code = !code;
            } else if (!code && !line.isBlank()) {
                told.add(line.startsWith("- ") ? line.substring(2) : line);
            }
        }
        CHECK.dueTrue("README says " + told + ", tested is " + quoted, told.equals(quoted));
    }

    private static String tools() {
        return "It needs `javac`, `java` and a shell with `basename`, `dirname`, `mkdir`, `mktemp` "
                + "and `rm`.";
    }

    private void running() throws IOException, InterruptedException {
        CHECK.dueTrue("the command", blocks(RUNNING, "sh").get(0).equals(List.of(".ci/run")));
        Sandbox good = sandbox(Sandbox.ofScript()).startScript();
        Sandbox elsewhere = sandbox(Sandbox.ofScript());
        Set<Path> before = elsewhere.files();
        elsewhere.start("tmp", false, elsewhere.path(".ci/run"));
        Sandbox bare = sandbox(Sandbox.ofScript());
        for (String tool : named(tools())) {
            bare.allowTool(tool);
        }
        bare.start("project", true, bare.path(".ci/run"));
        Sandbox ownFails = sandbox(Sandbox.ofScript().putTest(FIRST, 1)).startScript();
        Sandbox ownBroken = sandbox(Sandbox.ofScript().put(FIRST, "class Firs")).startScript();
        Sandbox ownWarns = sandbox(Sandbox.ofScript().put("project/src/test/java/Warning.java",
                "class Warning { java.util.List raw; }")).startScript();
        Sandbox sharedFails = sandbox(Sandbox.ofScript().putTest(EARLY, 1)).startScript();
        Sandbox sharedBroken = sandbox(Sandbox.ofScript().put(EARLY, "class Earl")).startScript();
        Sandbox sharedTooMuch = sandbox(Sandbox.ofScript().put("shared/tests/Middle.java",
                "class Middle { Helper helper; public static void main(String[] args) { } }"))
                .startScript();
        Sandbox sharedNone = sandbox(Sandbox.ofScript().remove(EARLY)
                .remove("shared/tests/Late.java")).startScript();

        says("It runs every test of the project, `src/test/java/*Test.java`.",
                good.tells("ran FirstTest", "ran LastTest"));
        says("It runs every test under `../shared/tests`, each compiled together with the class "
                + "alone.", good.tells("ran Early", "ran Late") && sharedTooMuch.exit() == 1);
        says("It ends with 0 and says \"all tests passed\" if all of them passed.",
                good.exit() == 0 && good.tells("all tests passed"));
        says("It ends with 1 if a test fails, does not compile, or compiles with a warning in the "
                + "project.", isRefused(ownFails) && isRefused(ownBroken) && isRefused(ownWarns)
                && isRefused(sharedFails) && isRefused(sharedBroken));
        says("It ends with 1 if there is no test under `../shared/tests`.", isRefused(sharedNone));
        says("A test that fails does not keep the later ones from running.",
                ownFails.tells("ran LastTest", "ran Early", "ran Late")
                        && sharedFails.tells("ran Late") && sharedBroken.tells("ran Late"));
        says("It can be called from any directory and leaves no file behind.",
                elsewhere.exit() == 0 && elsewhere.files().equals(before));
        says(tools(), bare.exit() == 0);
    }

    private static boolean isRefused(Sandbox sandbox) throws IOException, InterruptedException {
        return sandbox.exit() == 1 && !sandbox.tells("all tests passed");
    }

    private void commands() throws IOException, InterruptedException {
        List<String> commands = blocks(RUNNING, "sh").get(1);
        Sandbox copy = sandbox(new Sandbox().copy("src"));
        String noRun = "\njava -cp out RandomRunsTest 0";
        copy.start("project", false, "sh", "-e", "-c", String.join("\n", commands) + noRun);
        says("One test alone is compiled and run like this; a number behind `RandomRunsTest` says "
                + "how many runs:",
                copy.exit() == 0 && copy.tells("RandomRunsTest: 0 checks, 0 wrong"));
        for (String test : List.of("TextsTest", "RandomRunsTest")) {
            CHECK.dueTrue(test + " ran alone: " + copy.told(),
                    copy.told().contains(test + ": ") && copy.told().contains(" checks, 0 wrong"));
        }
    }
}
