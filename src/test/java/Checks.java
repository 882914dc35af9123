import java.util.NoSuchElementException;
import java.util.Objects;

/** Compares answers with those that are due, and ends a test. */
final class Checks {
    static final Class<?> INDEX = IndexOutOfBoundsException.class;
    static final Class<?> ARGUMENT = IllegalArgumentException.class;
    static final Class<?> STATE = IllegalStateException.class;
    static final Class<?> ELEMENT = NoSuchElementException.class;
    static final Class<?> REFUSED = UnsupportedOperationException.class;
    static final Class<?> DIVISION = ArithmeticException.class;

    interface Call {
        Object answer();
    }

    private int right = 0;
    private int wrong = 0;
    private String promise = "";

    void promise(int number) {
        promise = "promise " + number;
    }

    void part(String name) {
        promise = name;
    }

    void due(Object want, Object got, String what) {
        if (Objects.equals(want, got)) {
            right++;
        } else {
            wrong++;
            System.out.println(promise + ": " + what + " answered " + got + ", due is " + want);
        }
    }

    /** The call must throw exactly this exception, and leave everything that can be asked as it was. */
    void throwsAndKeeps(InterlockingBox box, Class<?> kind, Call call, String what) {
        String before = Picture.of(box);
        due(kind, thrownBy(call), what + " throws");
        due(before, Picture.of(box), "the box after " + what);
        due(true, box.isConsistent(), "isConsistent() after " + what);
    }

    void throwsOnly(Class<?> kind, Call call, String what) {
        due(kind, thrownBy(call), what + " throws");
    }

    static Object thrownBy(Call call) {
        try {
            return "nothing, but answers " + call.answer();
        } catch (RuntimeException e) {
            return e.getClass();
        }
    }

    void end() {
        System.out.println(right + " answers are as due, " + wrong + " are not");
        if (wrong != 0 || right == 0) {
            System.exit(1);
        }
    }
}
