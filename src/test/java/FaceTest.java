import java.io.IOException;
import java.lang.reflect.Constructor;
import java.lang.reflect.Field;
import java.lang.reflect.Method;
import java.lang.reflect.Modifier;
import java.nio.file.Files;
import java.nio.file.Path;
import java.util.ArrayList;
import java.util.List;
import java.util.Set;
import java.util.TreeSet;

/** "The public face" of the document: its declarations, their order, and the headings that stand ahead of the calls. */
public final class FaceTest {
    private static final Checks CHECKS = new Checks();
    private static final Path SOURCE = Path.of("src/main/java/InterlockingBox.java");
    private static final String HEADING = "// ---- ";

    public static void main(String[] args) throws IOException {
        List<String> declarations = Document.face();
        List<String> names = new ArrayList<>();
        for (String declaration : declarations) {
            names.add(nameOf(declaration));
        }
        declarations(declarations);
        order(names);
        headings(names);
        members(new TreeSet<>(names));
        CHECKS.end();
    }

    /** The name stands before the parameters. */
    private static String nameOf(String declaration) {
        String head = declaration.substring(0, declaration.indexOf('('));
        return head.substring(head.lastIndexOf(' ') + 1);
    }

    /** The text of the class without line breaks, so that a declaration reads as in the document. */
    private static String flatSource() throws IOException {
        return Files.readString(SOURCE).replaceAll("\\s+", " ");
    }

    private static void declarations(List<String> declarations) throws IOException {
        CHECKS.part("The public face");
        String text = flatSource();
        CHECKS.due(true, text.contains(" public final class InterlockingBox {"), "the head of the class stands:");
        CHECKS.due(true, text.contains("import java.util.NoSuchElementException;"), "the import stands:");
        CHECKS.due(56, declarations.size(), "the declarations of the document");
        for (String declaration : declarations) {
            CHECKS.due(true, text.contains(" " + declaration + " {"), declaration + " stands:");
        }
    }

    private static void order(List<String> names) throws IOException {
        List<String> found = new ArrayList<>();
        for (String line : Files.readAllLines(SOURCE)) {
            if (line.startsWith("    public ")) {
                found.add(nameOf(line));
            }
        }
        CHECKS.due(names, found, "the public members in their order");
    }

    private static void headings(List<String> names) throws IOException {
        CHECKS.part("Terms");
        List<String> found = new ArrayList<>();
        String heading = "";
        for (String line : Files.readAllLines(SOURCE)) {
            if (line.strip().startsWith(HEADING)) {
                heading = line.strip().substring(HEADING.length());
            } else if (line.startsWith("    public ") && names.contains(nameOf(line)) && !heading.isEmpty()) {
                found.add(nameOf(line) + " under " + heading);
            }
        }
        List<String> due = Document.headings();
        CHECKS.due(true, due.size() == names.size() - 1, "the document has a heading for all but the constructor:");
        CHECKS.due(due, found, "the calls under their headings");
    }

    private static void members(Set<String> names) {
        CHECKS.part("rule 1");
        Class<?> type = InterlockingBox.class;
        CHECKS.due(Modifier.PUBLIC | Modifier.FINAL, type.getModifiers(), "the modifiers of the class");
        CHECKS.due(Object.class, type.getSuperclass(), "the class above it");
        Set<String> found = new TreeSet<>(Set.of("InterlockingBox"));
        for (Method method : type.getDeclaredMethods()) {
            if (Modifier.isPublic(method.getModifiers())) {
                found.add(method.getName());
                CHECKS.due(false, Modifier.isStatic(method.getModifiers()), method + " is static:");
            } else if (!method.isSynthetic()) {
                CHECKS.due(true, Modifier.isPrivate(method.getModifiers()), method + " is private:");
                CHECKS.due(false, names.contains(method.getName()), method + " bears the name of a public one:");
            }
        }
        CHECKS.due(names, found, "the names of the public members");
        for (Field field : type.getDeclaredFields()) {
            CHECKS.due(true, field.isSynthetic() || Modifier.isPrivate(field.getModifiers()), field + " is private:");
        }
        Constructor<?>[] constructors = type.getDeclaredConstructors();
        CHECKS.due(1, constructors.length, "the constructors");
        CHECKS.due(0, constructors[0].getParameterCount(), "the parameters of the constructor");
    }
}
