import java.util.LinkedHashMap;
import java.util.Map;
import java.util.Set;

/** Tests of single sentences of the document, each one named after the place where its sentence stands and by it. */
final class Suite {
    interface Body {
        void check(Checks checks);
    }

    private final Map<String, Body> tests = new LinkedHashMap<>();

    void promise(int number, String sentence, Body body) {
        add("Promise " + number + ": " + sentence, body);
    }

    void term(String sentence, Body body) {
        add("Terms: " + sentence, body);
    }

    private void add(String name, Body body) {
        if (tests.put(name, body) != null) {
            throw new IllegalStateException("there are two tests of " + name);
        }
    }

    Set<String> names() {
        return tests.keySet();
    }

    /** A test that breaks off, or that looks at nothing, is wrong; the others are run all the same. */
    void run(Checks checks) {
        for (Map.Entry<String, Body> test : tests.entrySet()) {
            checks.part(test.getKey());
            int before = checks.answers();
            try {
                test.getValue().check(checks);
            } catch (RuntimeException e) {
                e.printStackTrace(System.out);
                checks.due("a test that runs to its end", e.toString(), "the test");
            }
            checks.due(true, checks.answers() > before, "the test looks at an answer:");
        }
    }
}
