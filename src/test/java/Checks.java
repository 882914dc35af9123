import java.util.Arrays;
import java.util.NoSuchElementException;
import java.util.Objects;

/** Compares answers with those that are due, and ends a test. */
final class Checks {
    static final Class<?> INDEX = IndexOutOfBoundsException.class;
    static final Class<?> ARGUMENT = IllegalArgumentException.class;
    static final Class<?> STATE = IllegalStateException.class;
    static final Class<?> ELEMENT = NoSuchElementException.class;
    static final Class<?> REFUSED = UnsupportedOperationException.class;
    static final Class<?> DIVISION = ArithmeticException.class;

    interface Call {
        Object answer();
    }

    /** Makes a box by the same calls each time. */
    interface Recipe {
        InterlockingBox make();
    }

    /** A call of a box that is made anew. */
    interface Use {
        Object of(InterlockingBox box);
    }

    /** A call with a number, such as the one of a block. */
    interface NumberedUse {
        Object of(InterlockingBox box, int number);
    }

    private int right = 0;
    private int wrong = 0;
    private String promise = "";

    void promise(int number) {
        promise = "promise " + number;
    }

    void part(String name) {
        promise = name;
    }

    void due(Object want, Object got, String what) {
        if (Objects.equals(want, got)) {
            right++;
        } else {
            wrong++;
            System.out.println(promise + ": " + what + " answered " + got + ", due is " + want);
        }
    }

    /** The call must throw exactly this exception, and leave everything that can be asked as it was. */
    void throwsAndKeeps(InterlockingBox box, Class<?> kind, Call call, String what) {
        String before = Picture.of(box);
        due(kind, thrownBy(call), what + " throws");
        due(before, Picture.of(box), "the box after " + what);
        due(true, box.isConsistent(), "isConsistent() after " + what);
    }

    void throwsOnly(Class<?> kind, Call call, String what) {
        due(kind, thrownBy(call), what + " throws");
    }

    /**
     * The call must throw exactly this exception on a box that is made by the recipe, and leave all its aspects as they
     * were, but for those that are named as changed.
     */
    void refuses(Recipe recipe, Class<?> kind, Use use, String what, Aspect... changed) {
        InterlockingBox refusing = recipe.make();
        due(kind, thrownBy(() -> use.of(refusing)), what + " throws");
        for (Probe probe : Probe.ALL) {
            if (!Arrays.asList(changed).contains(probe.aspect)) {
                InterlockingBox asked = recipe.make();
                thrownBy(() -> use.of(asked));
                due(probe.answers(recipe.make()), probe.answers(asked), probe.name + " after " + what);
            }
        }
    }

    /** The call is refused with each of the numbers. */
    void refusesEach(Recipe recipe, Class<?> kind, int[] numbers, NumberedUse use, String what) {
        for (int number : numbers) {
            refuses(recipe, kind, box -> use.of(box, number), what + " with " + number);
        }
    }

    /**
     * Numbers that do not belong to a row that begins with 0: those just outside of it, those far outside, and those
     * that would come inside if they were cut down to fewer bits.
     */
    static int[] outside(int size) {
        return new int[] {-1, size, -32, 32, 64, 256, -256, 65536, 1 << 30, Integer.MAX_VALUE, Integer.MIN_VALUE};
    }

    /** The call must answer, whatever it be, and throw nothing. */
    void answers(Call call, String what) {
        due(false, outcome(call) instanceof Class, what + " throws:");
    }

    /** The answer, or the class of the exception that is thrown instead. */
    static Object outcome(Call call) {
        try {
            return call.answer();
        } catch (RuntimeException e) {
            return e.getClass();
        }
    }

    int answers() {
        return right + wrong;
    }

    static Object thrownBy(Call call) {
        try {
            return "nothing, but answers " + call.answer();
        } catch (RuntimeException e) {
            return e.getClass();
        }
    }

    void end() {
        System.out.println(right + " answers are as due, " + wrong + " are not");
        if (wrong != 0 || right == 0) {
            System.exit(1);
        }
    }
}
