import java.io.IOException;
import java.lang.reflect.Constructor;
import java.lang.reflect.Field;
import java.lang.reflect.Method;
import java.lang.reflect.Modifier;
import java.nio.file.Files;
import java.nio.file.Path;
import java.util.ArrayList;
import java.util.Arrays;
import java.util.List;
import java.util.Set;
import java.util.TreeSet;
import java.util.regex.Matcher;
import java.util.regex.Pattern;

/** The public face as the document lists it, and rules of LANGUAGE.md that a text search can see. */
public final class FaceTest {
    private static final Check CHECK = new Check("FaceTest");
    private static final String INDEX = "IndexOutOfBoundsException";
    private static final String ARGUMENT = "IllegalArgumentException";
    private static final String STATE = "IllegalStateException";

    private static final String[] FACE = {
        "int begin(int,int) " + ARGUMENT,
        "int setWeight(int,int) " + INDEX + " " + ARGUMENT,
        "int plan(int,int,int) " + INDEX + " " + ARGUMENT,
        "int trial(int,boolean) " + STATE + " " + INDEX,
        "int answer(int) " + STATE + " " + ARGUMENT,
        "int compare(int,int,int,int) " + INDEX + " " + ARGUMENT + " " + STATE,
        "int remove(int) " + INDEX,
        "int undo() " + STATE,
        "int append(int) " + ARGUMENT + " " + STATE,
        "int clearBuffer()",
        "int firstError()",
        "int load() " + ARGUMENT + " " + STATE,
        "int count(int) " + ARGUMENT,
        "int comparison(int,int) " + INDEX + " " + ARGUMENT,
        "int result(int,int,int) " + INDEX + " " + ARGUMENT,
        "int sample(int,int) " + INDEX + " " + ARGUMENT,
        "int order(int) " + INDEX,
        "int summary(int) " + ARGUMENT,
        "int without(int,int,int) " + INDEX + " " + ARGUMENT,
        "int rings(int) " + INDEX,
        "double consistency(int) " + INDEX + " " + STATE,
        "double agreement(int,int) " + INDEX,
        "long chance(int,int) " + INDEX + " " + ARGUMENT,
        "long placeChance()",
        "int proved(int,int) " + ARGUMENT + " " + INDEX,
        "double strength(int,int) " + INDEX + " " + ARGUMENT,
        "double misfit(int) " + ARGUMENT,
        "long digest()",
    };

    public static void main(String[] args) throws IOException {
        face();
        names();
        documentFace(Files.readString(Path.of("../shared/DOC.md")),
                Files.readString(Path.of("src/main/java/ListeningTrials.java")));
        source(Files.readString(Path.of("src/main/java/ListeningTrials.java")));
        CHECK.end();
    }

    private static String told(Method method) {
        List<String> parameters = new ArrayList<>();
        for (Class<?> type : method.getParameterTypes()) {
            parameters.add(type.getName());
        }
        StringBuilder told = new StringBuilder();
        told.append(method.getReturnType().getName()).append(' ').append(method.getName())
                .append('(').append(String.join(",", parameters)).append(')');
        for (Class<?> type : method.getExceptionTypes()) {
            told.append(' ').append(type.getSimpleName());
        }
        return told.toString();
    }

    private static void face() {
        Class<?> type = ListeningTrials.class;
        CHECK.due("modifiers", type.getModifiers(), Modifier.PUBLIC | Modifier.FINAL);
        Constructor<?>[] constructors = type.getDeclaredConstructors();
        CHECK.due("constructors", constructors.length, 1);
        CHECK.due("its modifiers", constructors[0].getModifiers(), Modifier.PUBLIC);
        CHECK.due("its parameters", constructors[0].getParameterCount(), 0);
        Set<String> seen = new TreeSet<>();
        for (Method method : type.getDeclaredMethods()) {
            if (!Modifier.isPrivate(method.getModifiers())) {
                CHECK.due(method.getName(), method.getModifiers(), Modifier.PUBLIC);
                seen.add(told(method));
            }
        }
        Set<String> due = new TreeSet<>(Arrays.asList(FACE));
        CHECK.dueTrue("the methods are " + seen + ", due are " + due, seen.equals(due));
        for (Field field : type.getDeclaredFields()) {
            boolean none = field.getName().equals("NONE");
            CHECK.dueTrue(field.getName() + " is private",
                    none || Modifier.isPrivate(field.getModifiers()));
        }
    }

    /** Every line of the document's face stands in the source, its parameters' names too. */
    private static void documentFace(String document, String source) {
        String words = source.replaceAll("\\s+", " ");
        int start = document.indexOf("```java");
        String[] lines = document.substring(start, document.indexOf("```", start + 3)).split("\n");
        int found = 0;
        for (String line : lines) {
            String signature = line.strip().replaceAll("\\s*[;{]$", "");
            if (signature.startsWith("public ")) {
                found++;
                boolean constant = signature.contains(" = ");
                CHECK.dueTrue("the source has no " + signature,
                        words.contains(signature + (constant ? ";" : " {")));
            }
        }
        CHECK.due("the class, its constant, constructor and methods", found, 3 + FACE.length);
    }

    private static void names() {
        Set<String> face = new TreeSet<>();
        for (Method method : ListeningTrials.class.getDeclaredMethods()) {
            if (Modifier.isPublic(method.getModifiers())) {
                face.add(method.getName());
            }
        }
        Class<?>[] inner = ListeningTrials.class.getDeclaredClasses();
        CHECK.dueTrue("at most twelve classes", inner.length < 12);
        List<Class<?>> all = new ArrayList<>(Arrays.asList(inner));
        all.add(ListeningTrials.class);
        for (Class<?> type : all) {
            CHECK.dueTrue(type + " has at most twenty fields", instanceFields(type) <= 20);
            for (Method method : type.getDeclaredMethods()) {
                CHECK.dueTrue(type + " " + method.getName() + " bears a public name",
                        Modifier.isPublic(method.getModifiers())
                                || !face.contains(method.getName()));
                CHECK.dueTrue("parameters of " + method, method.getParameterCount() <= 7);
            }
        }
    }

    private static long instanceFields(Class<?> type) {
        return Arrays.stream(type.getDeclaredFields())
                .filter(field -> !Modifier.isStatic(field.getModifiers())).count();
    }

    /** Words that the rules leave out; comments and texts are taken away first. */
    private static void source(String whole) {
        String code = whole.replaceAll("(?s)/\\*.*?\\*/", "").replaceAll("//[^\n]*", "")
                .replaceAll("\"[^\"\n]*\"", "\"\"");
        Matcher word = Pattern.compile("->|::|\\b(try|catch|finally|synchronized|assert|package"
                + "|lambda|var|static \\{|getMessage|Exact|sqrt|NaN|hashCode|toString|Object"
                + "|String|Random|System\\.(?!arraycopy)\\w+)\\b").matcher(code);
        while (word.find()) {
            CHECK.dueTrue("the source has " + word.group(), false);
        }
        Matcher imports = Pattern.compile("import ([^;]*);").matcher(code);
        while (imports.find()) {
            CHECK.dueTrue("import " + imports.group(1), imports.group(1).equals("java.util.Arrays"));
        }
        for (int k = 0; k < whole.length(); k++) {
            if (whole.charAt(k) > 126) {
                CHECK.dueTrue("a sign beyond 126 at " + k, false);
            }
        }
    }
}
