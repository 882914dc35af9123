import com.sun.management.ThreadMXBean;
import java.lang.management.ManagementFactory;
import java.util.LinkedHashMap;
import java.util.Map;

/**
 * "What it is": an object is used for 512 calls. They are one call over and over here, on a box with all blocks, points
 * and trains, and what they make must stay far below 600,000 objects and 7.3 million fields and elements: an object
 * takes at least 16 bytes and a field at least one, so that a bound for the bytes is one for both.
 */
public final class RoomTest {
    private static final Checks CHECKS = new Checks();
    private static final ThreadMXBean BEAN = (ThreadMXBean) ManagementFactory.getThreadMXBean();
    private static final int CALLS = 512;
    private static final long MOST_BYTES = 1000000;

    public static void main(String[] args) {
        CHECKS.part("What it is");
        for (Map.Entry<String, Checks.NumberedUse> call : calls().entrySet()) {
            bytes(call.getValue());
            long bytes = bytes(call.getValue());
            CHECKS.due(true, bytes < MOST_BYTES, CALLS + " calls of " + call.getKey() + " make " + bytes + " bytes:");
        }
        CHECKS.end();
    }

    private static Map<String, Checks.NumberedUse> calls() {
        Map<String, Checks.NumberedUse> calls = new LinkedHashMap<>();
        calls.put("addBlock", (box, n) -> box.addBlock(n % 10));
        calls.put("addPoint", (box, n) -> box.addPoint(n % 12, 11, 10));
        calls.put("addLink", (box, n) -> box.addLink(n % 12, 11));
        calls.put("shut", (box, n) -> n % 2 == 0 ? box.shut(n % 12) : box.open((n - 1) % 12));
        calls.put("throwPoint", (box, n) -> box.throwPoint(n % 8));
        calls.put("addTrain", (box, n) -> box.addTrain(n % 12, 11));
        calls.put("setRoute", (box, n) -> n % 2 == 0 ? box.setRoute(7) : box.releaseRoute(7));
        calls.put("pass", (box, n) -> box.pass(240));
        calls.put("paths", (box, n) -> box.paths(0, n % 12));
        calls.put("routeLength", (box, n) -> box.routeLength(0, n % 12));
        calls.put("routeLengthByPaths", (box, n) -> box.routeLengthByPaths(0, n % 12));
        calls.put("routeBlock", (box, n) -> box.routeBlock(0, 11, n % 12));
        calls.put("minutesUntilArrivalByPassing",
                (box, n) -> n == 0 ? box.setRoute(7) : box.minutesUntilArrivalByPassing(7));
        calls.put("deadlocked", (box, n) -> box.deadlocked());
        calls.put("deadlockedByPairs", (box, n) -> box.deadlockedByPairs());
        calls.put("conflict", (box, n) -> box.conflict(n % 8, n % 7));
        calls.put("mostWithoutConflict", (box, n) -> box.mostWithoutConflict());
        calls.put("mostWithoutConflictBySets", (box, n) -> box.mostWithoutConflictBySets());
        calls.put("isConsistent", (box, n) -> box.isConsistent());
        calls.put("writeBlocks", (box, n) -> box.writeBlocks());
        calls.put("writeTrain", (box, n) -> box.writeTrain(n % 8));
        calls.put("type", (box, n) -> n % 61 == 60 ? box.run() : box.type("wait 240;".charAt(n % 61 % 9)));
        calls.put("run", (box, n) -> n % 5 == 4 ? box.run() : box.type("wait".charAt(n % 5)));
        calls.put("undo", (box, n) -> n % 2 == 0 ? box.pass(1) : box.undo());
        calls.put("save", (box, n) -> n % 2 == 0 ? box.save() : box.restore());
        return calls;
    }

    /** What is made by a box with so many calls, the exceptions that it throws among it. */
    private static long bytes(Checks.NumberedUse call) {
        long thread = Thread.currentThread().getId();
        long before = BEAN.getThreadAllocatedBytes(thread);
        InterlockingBox box = full();
        for (int i = 28; i < CALLS; i++) {
            try {
                call.of(box, i - 28);
            } catch (RuntimeException e) {
                CHECKS.due(false, isOfMachine(e), e + " is thrown by the machine:");
            }
        }
        return BEAN.getThreadAllocatedBytes(thread) - before;
    }

    /** The class throws exceptions of the classes that the document names, and none of the classes below them. */
    private static boolean isOfMachine(RuntimeException e) {
        return e instanceof ArrayIndexOutOfBoundsException || e instanceof StringIndexOutOfBoundsException
                || e instanceof NullPointerException || "/ by zero".equals(e.getMessage());
    }

    /** All blocks, points and trains, in 28 calls, with as many paths as points can make. */
    private static InterlockingBox full() {
        InterlockingBox box = Boxes.withBlocks(9, 9, 9, 9, 9, 9, 9, 9, 9, 9, 9, 9);
        for (int i = 0; i < 8; i++) {
            box.addPoint(i, i + 1, i + 2);
        }
        for (int i = 0; i < 8; i++) {
            box.addTrain(i, i == 7 ? 9 : 11);
        }
        return box;
    }
}
