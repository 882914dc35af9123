import java.lang.reflect.InvocationTargetException;
import java.lang.reflect.Method;
import java.lang.reflect.Modifier;
import java.util.ArrayList;
import java.util.Arrays;
import java.util.Comparator;
import java.util.List;
import java.util.Random;

/**
 * Promises 1 to 56 in long runs of calls: each call, its answer or its very exception, must be as PlainBox has it.
 * The seeds are fixed, so that each run of this test makes the same calls.
 */
public final class ModelTest {
    private static final Checks CHECKS = new Checks();
    private static final int RUNS = 1200;
    private static final int CALLS = 512;
    private static final String[] CHANGES = {"addTrain", "addTrain", "addTrain", "addTrain", "addTrain", "addTrain",
        "setRoute", "setRoute", "setRoute", "setRoute", "releaseRoute", "releaseRoute", "pass", "pass", "pass",
        "throwPoint", "throwPoint", "addLink", "addPoint", "undo"};
    private static final String[] ON_TRAINS = {"setRoute", "releaseRoute", "blockOf", "destination", "hasRoute",
        "isClear", "minutesUntilNext", "minutesUntilArrival", "minutesUntilArrivalByPassing", "delay", "waitsFor",
        "conflict", "writeTrain"};
    private static final String[] PIECES = {"block ", "point ", "link ", "train ", "set ", "free ", "shut ", "open ",
        "throw ", "wait", "wait ", ";", ">", ",", "0", "1", "2", "12", "345", "bl", "x", " "};

    public static void main(String[] args) throws IllegalAccessException {
        List<Method> face = new ArrayList<>();
        for (Method method : InterlockingBox.class.getDeclaredMethods()) {
            if (Modifier.isPublic(method.getModifiers())) {
                face.add(method);
            }
        }
        face.sort(Comparator.comparing(Method::toString));
        for (int seed = 0; seed < RUNS; seed++) {
            CHECKS.part("seed " + seed);
            new Run(seed, face).go();
        }
        CHECKS.end();
    }

    private static final class Run {
        private final Random random;
        private final List<Method> face;
        private final InterlockingBox box = new InterlockingBox();
        private final PlainBox plain = new PlainBox();
        private int calls = 0;

        Run(int seed, List<Method> face) {
            random = new Random(seed);
            this.face = face;
        }

        void go() throws IllegalAccessException {
            build();
            while (calls < CALLS) {
                int kind = random.nextInt(25);
                if (kind == 0) {
                    typeProgram();
                    call(method("run"));
                } else if (kind == 1) {
                    writeAndRead();
                } else if (kind < 11) {
                    call(method(CHANGES[random.nextInt(CHANGES.length)]));
                } else if (kind == 11) {
                    shutOrOpen();
                } else if (kind < 15) {
                    askTogether();
                } else if (kind == 15) {
                    askRoute();
                } else {
                    call(face.get(random.nextInt(face.size())));
                }
            }
        }

        private void build() throws IllegalAccessException {
            int blocks = 2 + random.nextInt(11);
            boolean isEven = random.nextBoolean();
            for (int i = 0; i < blocks; i++) {
                call(method("addBlock"), isEven ? 1 + i % 2 : 1 + random.nextInt(9));
            }
            int unlinked = random.nextInt(6) - 3;
            for (int i = 0; i < blocks - unlinked; i++) {
                int left = random.nextInt(3) > 0 ? (i + 1) % blocks : random.nextInt(blocks);
                if (random.nextBoolean()) {
                    call(method("addPoint"), i % blocks, left, random.nextInt(blocks));
                } else {
                    call(method("addLink"), i % blocks, left);
                }
            }
        }

        private void shutOrOpen() throws IllegalAccessException {
            int block = random.nextInt(plain.blocks() + 1);
            boolean isShut = block < plain.blocks() && plain.blockState(block) == 's';
            if (isShut || random.nextInt(3) == 0) {
                call(method(isShut ? "open" : "shut"), block);
            }
        }

        /** What is asked in two ways is asked in one state. */
        private void askTogether() throws IllegalAccessException {
            call(method("deadlocked"));
            call(method("deadlockedByPairs"));
            call(method("mostWithoutConflict"));
            call(method("mostWithoutConflictBySets"));
            call(method("isConsistent"));
            Object train = number("blockOf");
            call(method("minutesUntilArrival"), train);
            call(method("minutesUntilArrivalByPassing"), train);
            call(method("writeBlocks"));
        }

        private void askRoute() throws IllegalAccessException {
            Object from = number("routeLength");
            Object to = number("routeLength");
            call(method("routeLength"), from, to);
            call(method("routeLengthByPaths"), from, to);
            call(method("paths"), from, to);
            for (int i = 0; i < 6; i++) {
                call(method("routeBlock"), from, to, i);
            }
        }

        private Method method(String name) {
            for (Method method : face) {
                if (method.getName().equals(name)) {
                    return method;
                }
            }
            throw new IllegalStateException(name);
        }

        private void call(Method method, Object... given) throws IllegalAccessException {
            Class<?>[] types = method.getParameterTypes();
            Object[] arguments = new Object[types.length];
            for (int i = 0; i < types.length; i++) {
                if (given.length == types.length) {
                    arguments[i] = given[i];
                } else if (types[i] == char.class) {
                    arguments[i] = PIECES[random.nextInt(PIECES.length)].charAt(0);
                } else {
                    arguments[i] = number(method.getName());
                }
            }
            make(method, arguments);
        }

        private int number(String name) {
            if (random.nextInt(60) == 0) {
                int[] odd = {Integer.MIN_VALUE, -1, 8, 9, 10, 12, 13, 31, 32, 33, 64, 240, 241, Integer.MAX_VALUE};
                return odd[random.nextInt(odd.length)];
            }
            if (Arrays.asList(ON_TRAINS).contains(name)) {
                return train();
            }
            if (name.equals("pass")) {
                return random.nextInt(30) == 0 ? random.nextInt(260) : 1 + random.nextInt(8);
            }
            return random.nextInt(plain.blocks() + 1);
        }

        /** Mostly one that is present. */
        private int train() {
            List<Integer> present = new ArrayList<>();
            for (int i = 0; i < CALLS; i++) {
                if (plain.isPresent(i)) {
                    present.add(i);
                }
            }
            boolean isAny = present.isEmpty() || random.nextInt(12) == 0;
            return isAny ? random.nextInt(12) : present.get(random.nextInt(present.size()));
        }

        private void typeProgram() throws IllegalAccessException {
            StringBuilder text = new StringBuilder();
            int commands = random.nextInt(5);
            for (int i = 0; i <= commands; i++) {
                text.append(i == 0 ? "" : ";").append(command());
            }
            if (random.nextInt(3) == 0) {
                int place = random.nextInt(text.length() + 1);
                text.insert(place, PIECES[random.nextInt(PIECES.length)]);
            }
            if (random.nextInt(5) == 0) {
                text.setLength(random.nextInt(text.length() + 1));
            }
            for (int i = 0; i < text.length(); i++) {
                call(method("type"), text.charAt(i));
            }
        }

        private String command() {
            int block = random.nextInt(plain.blocks() + 1);
            int other = random.nextInt(plain.blocks() + 1);
            int third = random.nextInt(plain.blocks() + 1);
            int train = train();
            String[] commands = {"block " + other % 10, "point " + block + ">" + other + "," + third,
                "link " + block + ">" + other, "train " + block + ">" + other, "set " + train, "free " + train,
                "shut " + block, "open " + block, "throw " + block % 10, "wait", "wait " + other};
            return commands[random.nextInt(commands.length)];
        }

        private void writeAndRead() throws IllegalAccessException {
            call(method(random.nextBoolean() ? "writeBlocks" : "writeTrain"));
            for (int i = 0; i < 16; i++) {
                call(method("charAt"), i);
            }
        }

        private void make(Method method, Object[] arguments) throws IllegalAccessException {
            calls++;
            Object got = answer(method, box, arguments);
            Object want;
            try {
                want = answer(PlainBox.class.getMethod(method.getName(), method.getParameterTypes()), plain, arguments);
            } catch (NoSuchMethodException e) {
                want = "no such method in PlainBox";
            }
            CHECKS.due(want, got, "call " + calls + " " + method.getName() + Arrays.toString(arguments));
        }

        private static Object answer(Method method, Object on, Object[] arguments) throws IllegalAccessException {
            try {
                return method.invoke(on, arguments);
            } catch (InvocationTargetException e) {
                return e.getCause().getClass();
            }
        }
    }
}
