import java.io.IOException;
import java.nio.file.Files;
import java.nio.file.Path;
import java.nio.file.StandardCopyOption;
import java.util.Comparator;
import java.util.List;
import java.util.Set;
import java.util.TreeSet;
import java.util.stream.Stream;

/** A directory of its own with a small project beside a small ../shared, to run commands in. */
final class Sandbox {
    private final Path root;
    private final Path output;
    private Process process;

    Sandbox() throws IOException {
        root = Files.createTempDirectory("sandbox");
        output = root.resolve("output");
        Files.createDirectories(root.resolve("tmp"));
        Files.createDirectories(root.resolve("tools"));
        Files.createDirectories(root.resolve("shared/tests"));
    }

    /** The script of the project itself, with a class and tests that all pass. */
    static Sandbox ofScript() throws IOException {
        Sandbox made = new Sandbox().copy(".ci/run")
                .put("project/src/main/java/ListeningTrials.java",
                        "public final class ListeningTrials { }")
                .put("project/src/test/java/Helper.java", "final class Helper { }");
        return made.putTest("project/src/test/java/FirstTest.java", 0)
                .putTest("project/src/test/java/LastTest.java", 0)
                .putTest("shared/tests/Early.java", 0)
                .putTest("shared/tests/Late.java", 0);
    }

    Sandbox put(String path, String text) throws IOException {
        Path file = root.resolve(path);
        Files.createDirectories(file.getParent());
        Files.writeString(file, text);
        return this;
    }

    /** A test that says that it ran, and ends with this exit code. */
    Sandbox putTest(String path, int exit) throws IOException {
        String name = Path.of(path).getFileName().toString().replace(".java", "");
        return put(path, "public final class " + name + " {\n"
                + "    public static void main(String[] args) {\n"
                + "        new ListeningTrials();\n"
                + "        System.out.println(\"ran " + name + "\");\n"
                + "        System.exit(" + exit + ");\n"
                + "    }\n"
                + "}\n");
    }

    Sandbox remove(String path) throws IOException {
        Files.delete(root.resolve(path));
        return this;
    }

    /** Copies a file or a directory of the project to the same place of this one. */
    Sandbox copy(String path) throws IOException {
        for (Path from : filesIn(Path.of(path))) {
            Path to = root.resolve("project").resolve(from);
            Files.createDirectories(to.getParent());
            Files.copy(from, to, StandardCopyOption.COPY_ATTRIBUTES);
        }
        return this;
    }

    /** Makes these programs the only ones that are found, as if nothing else was installed. */
    void allowTool(String name) throws IOException {
        for (String directory : System.getenv("PATH").split(":")) {
            Path tool = Path.of(directory).toAbsolutePath().resolve(name);
            if (Files.isExecutable(tool)) {
                Files.createSymbolicLink(root.resolve("tools").resolve(name), tool);
                return;
            }
        }
    }

    /** Starts a command in a directory of this one, so that several sandboxes run at once. */
    Sandbox start(String directory, boolean allowedToolsAlone, String... command)
            throws IOException {
        ProcessBuilder builder = new ProcessBuilder(command)
                .directory(root.resolve(directory).toFile())
                .redirectErrorStream(true).redirectOutput(output.toFile());
        builder.environment().put("TMPDIR", root.resolve("tmp").toString());
        if (allowedToolsAlone) {
            builder.environment().put("PATH", root.resolve("tools").toString());
        }
        process = builder.start();
        return this;
    }

    Sandbox startScript() throws IOException {
        return start("project", false, path(".ci/run"));
    }

    int exit() throws InterruptedException {
        return process.waitFor();
    }

    String told() throws IOException, InterruptedException {
        process.waitFor();
        return Files.readString(output);
    }

    boolean tells(String... lines) throws IOException, InterruptedException {
        return told().lines().toList().containsAll(List.of(lines));
    }

    String path(String inProject) {
        return root.resolve("project").resolve(inProject).toString();
    }

    Set<Path> files() throws IOException {
        Set<Path> files = new TreeSet<>(filesIn(root));
        files.remove(output);
        return files;
    }

    void delete() throws IOException {
        try (Stream<Path> all = Files.walk(root)) {
            for (Path path : all.sorted(Comparator.reverseOrder()).toList()) {
                Files.delete(path);
            }
        }
    }

    private static List<Path> filesIn(Path start) throws IOException {
        try (Stream<Path> all = Files.walk(start)) {
            return all.filter(path -> !Files.isDirectory(path)).toList();
        }
    }
}
