import java.io.IOException;
import java.lang.reflect.InvocationTargetException;
import java.net.URL;
import java.net.URLClassLoader;
import java.nio.file.Files;
import java.nio.file.Path;
import java.util.ArrayList;
import java.util.Comparator;
import java.util.List;
import java.util.regex.Matcher;
import java.util.regex.Pattern;
import java.util.stream.Stream;
import javax.tools.ToolProvider;

/**
 * README.md: the Java that it shows is compiled and run, and each call must answer, or throw, what stands behind it.
 * The table of the tests must have every test.
 */
public final class ReadmeTest {
    private static final Checks CHECKS = new Checks();
    private static final Path README = Path.of("README.md");
    private static final Path TESTS = Path.of("src/test/java");
    /** A call behind "int name = " or not, and what stands behind it: an answer, and words that say more. */
    private static final Pattern ANSWERED = Pattern.compile("(\\w+ (\\w+) = )?(.*); +// ([^,]+)(, .*)?");
    private static final String THROWS = "throws ";

    public static void main(String[] args) throws Exception {
        CHECKS.part("README.md");
        List<String> lines = shown();
        Path folder = Files.createTempDirectory("readme");
        try {
            runShown(lines, folder);
        } finally {
            remove(folder);
        }
        table();
        CHECKS.end();
    }

    /** The lines of all blocks of Java, which are one run of calls. */
    private static List<String> shown() throws IOException {
        List<String> lines = new ArrayList<>();
        boolean isJava = false;
        for (String line : Files.readAllLines(README)) {
            if (line.startsWith("```")) {
                isJava = line.equals("```java");
            } else if (isJava) {
                lines.add(line);
            }
        }
        return lines;
    }

    /** A call that is shown, which another class loader brings. */
    public interface Call {
        Object answer();
    }

    /** Called by what is shown, as is dueThrown. */
    public static void due(Object want, Object got, String call) {
        CHECKS.due(want, got, call);
    }

    public static void dueThrown(Class<?> kind, Call call, String name) {
        CHECKS.due(kind, Checks.thrownBy(call::answer), name);
    }

    private static void runShown(List<String> lines, Path folder) throws Exception {
        StringBuilder text = new StringBuilder("public final class Shown {\n    public static void run() {\n");
        int answered = 0;
        for (String line : lines) {
            Matcher matcher = ANSWERED.matcher(line);
            boolean isAnswered = matcher.matches();
            answered += isAnswered ? 1 : 0;
            text.append(isAnswered ? checked(matcher) : line).append('\n');
        }
        text.append("    }\n}\n");
        CHECKS.due(true, answered > 20, "there are answers:");
        Path source = folder.resolve("Shown.java");
        Files.writeString(source, text);
        int exit = ToolProvider.getSystemJavaCompiler().run(null, System.out, System.out, "-proc:none", "-cp",
                System.getProperty("java.class.path"), "-d", folder.toString(), source.toString());
        CHECKS.due(0, exit, "javac of what is shown");
        if (exit == 0) {
            try (URLClassLoader loader = new URLClassLoader(new URL[] {folder.toUri().toURL()})) {
                loader.loadClass("Shown").getMethod("run").invoke(null);
            } catch (InvocationTargetException e) {
                CHECKS.due("no exception", e.getCause().toString(), "what is shown");
            }
        }
    }

    private static String checked(Matcher line) {
        String call = line.group(3);
        String answer = line.group(4).strip();
        String name = "\"" + call.replace("\"", "\\\"") + "\"";
        if (answer.startsWith(THROWS)) {
            String kind = answer.substring(THROWS.length()) + ".class";
            return "ReadmeTest.dueThrown(" + kind + ", () -> " + call + ", " + name + ");";
        }
        if (line.group(1) != null) {
            return line.group(1) + call + "; ReadmeTest.due(" + answer + ", " + line.group(2) + ", " + name + ");";
        }
        return "ReadmeTest.due(" + answer + ", " + call + ", " + name + ");";
    }

    private static void table() throws IOException {
        List<String> found = new ArrayList<>();
        try (Stream<Path> files = Files.list(TESTS)) {
            files.map(file -> file.getFileName().toString()).filter(file -> file.endsWith("Test.java"))
                    .forEach(file -> found.add(file.replace(".java", "")));
        }
        List<String> listed = new ArrayList<>();
        for (String line : Files.readAllLines(README)) {
            if (line.startsWith("| `")) {
                listed.add(line.split("`")[1]);
            }
        }
        found.sort(Comparator.naturalOrder());
        listed.sort(Comparator.naturalOrder());
        CHECKS.due(found, listed, "the table of the tests");
    }

    private static void remove(Path folder) throws IOException {
        try (Stream<Path> files = Files.walk(folder)) {
            for (Path file : (Iterable<Path>) files.sorted(Comparator.reverseOrder())::iterator) {
                Files.delete(file);
            }
        }
    }
}
