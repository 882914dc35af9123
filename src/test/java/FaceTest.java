import java.io.IOException;
import java.lang.reflect.Constructor;
import java.lang.reflect.Executable;
import java.lang.reflect.Field;
import java.lang.reflect.Method;
import java.lang.reflect.Modifier;
import java.nio.file.Files;
import java.nio.file.Path;
import java.util.ArrayList;
import java.util.Arrays;
import java.util.List;
import java.util.Set;
import java.util.TreeSet;

/** The face of the class, and the rules of LANGUAGE.md that can be seen from outside or in the text. */
public final class FaceTest {
    private static final Checks CHECKS = new Checks();
    private static final Path SOURCE = Path.of("src/main/java/InterlockingBox.java");
    private static final int LONGEST_METHOD = 60;
    private static final String[] FACE = {
        "int addBlock(int) IllegalArgumentException,IllegalStateException",
        "int addPoint(int,int,int) IndexOutOfBoundsException,IllegalArgumentException,IllegalStateException",
        "int addLink(int,int) IndexOutOfBoundsException,IllegalArgumentException,IllegalStateException",
        "int shut(int) IndexOutOfBoundsException,IllegalStateException",
        "int open(int) IndexOutOfBoundsException,IllegalStateException",
        "boolean throwPoint(int) IndexOutOfBoundsException,IllegalStateException",
        "int addTrain(int,int) IndexOutOfBoundsException,IllegalArgumentException,IllegalStateException",
        "int setRoute(int) NoSuchElementException,IllegalStateException,UnsupportedOperationException",
        "int releaseRoute(int) NoSuchElementException,IllegalStateException",
        "int pass(int) IllegalArgumentException",
        "int blocks()",
        "int blockLength(int) IndexOutOfBoundsException",
        "char blockState(int) IndexOutOfBoundsException",
        "int trainAt(int) IndexOutOfBoundsException,NoSuchElementException",
        "boolean liesLeft(int) IndexOutOfBoundsException",
        "int lockedBy(int) IndexOutOfBoundsException,NoSuchElementException",
        "int routeLength(int,int) IndexOutOfBoundsException,NoSuchElementException",
        "int routeLengthByPaths(int,int) IndexOutOfBoundsException,NoSuchElementException",
        "int routeBlock(int,int,int) IndexOutOfBoundsException,NoSuchElementException",
        "int paths(int,int) IndexOutOfBoundsException",
        "int trains()",
        "boolean isPresent(int)",
        "int blockOf(int) NoSuchElementException",
        "int destination(int) NoSuchElementException",
        "boolean hasRoute(int) NoSuchElementException",
        "boolean isClear(int) NoSuchElementException",
        "int minutesUntilNext(int) NoSuchElementException",
        "int minutesUntilArrival(int) NoSuchElementException",
        "int minutesUntilArrivalByPassing(int) NoSuchElementException",
        "int delay(int) NoSuchElementException",
        "int queued(int) NoSuchElementException",
        "boolean waitsFor(int,int) NoSuchElementException",
        "int deadlocked()",
        "int deadlockedByPairs()",
        "boolean conflict(int,int) NoSuchElementException,IllegalArgumentException",
        "int mostWithoutConflict()",
        "int mostWithoutConflictBySets()",
        "char refusalReason() NoSuchElementException",
        "int refusalBlock() NoSuchElementException",
        "int time()",
        "int arrived()",
        "long totalDelay()",
        "double meanDelay() ArithmeticException",
        "float usedShare() ArithmeticException",
        "boolean isConsistent()",
        "int writeBlocks()",
        "int writeTrain(int) NoSuchElementException",
        "char charAt(int) IndexOutOfBoundsException",
        "int type(char) IllegalStateException",
        "int run() IllegalArgumentException,UnsupportedOperationException",
        "int errorPosition() NoSuchElementException",
        "int failedCommand() NoSuchElementException",
        "int undo() IllegalStateException",
        "int save()",
        "int restore() IllegalStateException"
    };
    private static final String[] FORBIDDEN = {"->", "::", "try {", "finally", "synchronized", "assert ", "catch (",
        "while (true)", "for (;;)", "\" +", "+ \"", "Exact(", "System.out", "record ", "protected "};

    public static void main(String[] args) throws IOException {
        members();
        nestedClasses();
        text();
        methodLengths();
        CHECKS.end();
    }

    private static void members() {
        CHECKS.part("rule 1");
        Class<?> type = InterlockingBox.class;
        CHECKS.due(Modifier.PUBLIC | Modifier.FINAL, type.getModifiers(), "the modifiers of the class");
        Set<String> found = new TreeSet<>();
        Set<String> hidden = new TreeSet<>();
        for (Method method : type.getDeclaredMethods()) {
            if (Modifier.isPublic(method.getModifiers())) {
                found.add(method.getReturnType() + " " + method.getName() + parts(method));
            } else if (!method.isSynthetic()) {
                CHECKS.due(true, Modifier.isPrivate(method.getModifiers()), method + " is private:");
                hidden.add(method.getName());
            }
        }
        CHECKS.due(new TreeSet<>(Arrays.asList(FACE)), found, "the public methods");
        for (String line : found) {
            String name = line.substring(line.indexOf(' ') + 1, line.indexOf('('));
            CHECKS.due(false, hidden.contains(name), name + " is the name of a private method too:");
        }
        for (Field field : type.getDeclaredFields()) {
            CHECKS.due(true, field.isSynthetic() || Modifier.isPrivate(field.getModifiers()), field + " is private:");
        }
        Constructor<?>[] constructors = type.getDeclaredConstructors();
        CHECKS.due(1, constructors.length, "the constructors");
        CHECKS.due(0, constructors[0].getParameterCount(), "the parameters of the constructor");
        CHECKS.due(true, Modifier.isPublic(constructors[0].getModifiers()), "the constructor is public:");
    }

    private static String parts(Executable method) {
        List<String> parameters = new ArrayList<>();
        for (Class<?> parameter : method.getParameterTypes()) {
            parameters.add(parameter.getName());
        }
        List<String> exceptions = new ArrayList<>();
        for (Class<?> exception : method.getExceptionTypes()) {
            exceptions.add(exception.getSimpleName());
        }
        return ("(" + String.join(",", parameters) + ") " + String.join(",", exceptions)).trim();
    }

    private static void nestedClasses() {
        CHECKS.part("rules 1, 5 and 11");
        Class<?>[] nested = InterlockingBox.class.getDeclaredClasses();
        CHECKS.due(true, nested.length < 12, "there are fewer than twelve classes inside:");
        for (Class<?> type : nested) {
            boolean isShown = Modifier.isPublic(type.getModifiers()) || Modifier.isProtected(type.getModifiers());
            CHECKS.due(false, isShown, type + " is public or protected:");
            CHECKS.due(true, Modifier.isStatic(type.getModifiers()), type + " is static:");
            int fields = 0;
            for (Field field : type.getDeclaredFields()) {
                boolean isStatic = Modifier.isStatic(field.getModifiers());
                boolean isFinal = Modifier.isFinal(field.getModifiers());
                CHECKS.due(true, !isStatic || isFinal, field + " is final if it is static:");
                fields += isStatic ? 0 : 1;
            }
            CHECKS.due(true, fields <= 20, type + " has at most twenty fields:");
        }
    }

    private static void text() throws IOException {
        CHECKS.part("LANGUAGE.md");
        String text = Files.readString(SOURCE);
        for (String word : FORBIDDEN) {
            CHECKS.due(-1, text.indexOf(word), "the place of " + word);
        }
        CHECKS.due(true, text.chars().allMatch(sign -> sign < 128), "the text is of ASCII alone:");
        List<String> imports = new ArrayList<>();
        for (String line : text.split("\n")) {
            if (line.startsWith("import ")) {
                imports.add(line);
            }
        }
        CHECKS.due(List.of("import java.util.Arrays;", "import java.util.NoSuchElementException;"), imports, "imports");
    }

    /** The text is indented evenly, so that a method ends where a brace stands below its first word. */
    private static void methodLengths() throws IOException {
        CHECKS.part("rule 11");
        List<String> lines = Files.readAllLines(SOURCE);
        for (int start = 0; start < lines.size(); start++) {
            String line = lines.get(start);
            String indent = line.substring(0, line.length() - line.stripLeading().length());
            boolean isRestOfHead = line.stripLeading().startsWith("throws ") || line.stripLeading().startsWith("||");
            boolean isType = line.contains(" class ") || line.contains(" enum ");
            boolean isBlock = line.endsWith("{") && !isRestOfHead && !isType;
            int end = start;
            while (isBlock && end < lines.size() && !lines.get(end).equals(indent + "}")) {
                end++;
            }
            CHECKS.due(true, end - start <= LONGEST_METHOD, "line " + (start + 1) + " begins a short block:");
        }
    }
}
