import java.lang.reflect.Field;

/** Promises 41 to 46: the sums, and promises 47 to 49: the output line. */
public final class SumTest {
    private static final Checks CHECKS = new Checks();

    public static void main(String[] args) {
        timeAndArrived();
        delays();
        usedShare();
        isConsistent();
        damagedStates();
        writeBlocks();
        writeTrain();
        charAt();
        CHECKS.end();
    }

    private static void timeAndArrived() {
        InterlockingBox box = Boxes.row(1, 1, 1);
        box.addTrain(0, 1);
        box.addTrain(1, 2);
        CHECKS.promise(41);
        box.pass(1);
        box.pass(5);
        CHECKS.due(6, box.time(), "time()");
        CHECKS.promise(42);
        CHECKS.due(2, box.arrived(), "arrived()");
        box.addTrain(0, 2);
        CHECKS.due(2, box.arrived(), "arrived() with a train on its way");
        box.pass(3);
        CHECKS.due(3, box.arrived(), "arrived()");
        CHECKS.promise(41);
        CHECKS.due(9, box.time(), "time()");
    }

    private static void delays() {
        InterlockingBox box = Boxes.row(1, 1, 1);
        CHECKS.promise(44);
        CHECKS.throwsOnly(Checks.DIVISION, box::meanDelay, "meanDelay()");
        box.addTrain(1, 2);
        CHECKS.due(0.0, box.meanDelay(), "meanDelay()");
        box.addTrain(0, 1);
        box.addTrain(2, 0);
        box.shut(1);
        box.pass(1);
        CHECKS.promise(43);
        CHECKS.due(3L, box.totalDelay(), "totalDelay()");
        CHECKS.promise(44);
        CHECKS.due(1.0, box.meanDelay(), "meanDelay()");
        box.pass(1);
        box.addBlock(1);
        box.addTrain(3, 0);
        CHECKS.due(6.0 / 4.0, box.meanDelay(), "meanDelay() of four trains");
        InterlockingBox thirds = Boxes.row(1, 1, 1);
        thirds.addTrain(1, 2);
        thirds.addTrain(0, 1);
        thirds.pass(1);
        thirds.pass(3);
        thirds.addTrain(0, 1);
        CHECKS.promise(43);
        CHECKS.due(1L, thirds.totalDelay(), "totalDelay() of arrived trains");
        CHECKS.promise(44);
        CHECKS.due(1.0 / 3.0, thirds.meanDelay(), "meanDelay() of three trains");
    }

    private static void usedShare() {
        CHECKS.promise(45);
        InterlockingBox box = new InterlockingBox();
        CHECKS.throwsOnly(Checks.DIVISION, box::usedShare, "usedShare()");
        InterlockingBox row = Boxes.row(1, 1, 1, 1, 1, 1, 1);
        CHECKS.due(0.0f, row.usedShare(), "usedShare() without trains");
        row.addTrain(0, 2);
        row.shut(6);
        CHECKS.due(1.0f / 7.0f, row.usedShare(), "usedShare() of one block");
        row.shut(0);
        row.setRoute(0);
        CHECKS.due(3.0f / 7.0f, row.usedShare(), "usedShare() with reserved blocks");
        row.pass(1);
        CHECKS.due(2.0f / 7.0f, row.usedShare(), "usedShare() on the way");
    }

    private static void isConsistent() {
        CHECKS.promise(46);
        InterlockingBox box = Boxes.diamond(2, 3, 1, 4);
        box.addTrain(0, 3);
        box.addTrain(1, 3);
        box.shut(1);
        box.setRoute(0);
        for (int i = 0; i < 12; i++) {
            CHECKS.due(true, box.isConsistent(), "isConsistent()");
            box.pass(1);
        }
        box.undo();
        CHECKS.due(true, box.isConsistent(), "isConsistent() after undo");
    }

    /** No calls lead to a damaged state, so that it is made behind the box's back. */
    private static void damagedStates() {
        CHECKS.promise(46);
        String[] wholes = {"waiting", "come", "gone", "present", "time", "line.shut", "line.stemsToRight", "line.links"};
        int[] values = {0, 9, 7, 1, 50, 1 << 2, 1 << 3, 5};
        for (int i = 0; i < wholes.length; i++) {
            InterlockingBox box = Boxes.diamond(2, 3, 1, 4);
            box.addTrain(0, 2);
            box.addTrain(3, 0);
            box.addTrain(1, 3);
            box.setRoute(0);
            CHECKS.due(true, box.isConsistent(), "isConsistent()");
            damage(box, wholes[i], values[i]);
            CHECKS.due(false, box.isConsistent(), "isConsistent() with another " + wholes[i]);
        }
    }

    private static void damage(Object of, String path, int value) {
        try {
            Object owner = valueIn(of, "now");
            String[] names = path.split("\\.");
            for (int i = 0; i + 1 < names.length; i++) {
                owner = valueIn(owner, names[i]);
            }
            Field field = owner.getClass().getDeclaredField(names[names.length - 1]);
            field.setAccessible(true);
            field.setInt(owner, value);
        } catch (ReflectiveOperationException e) {
            throw new IllegalStateException(e);
        }
    }

    private static Object valueIn(Object owner, String name) throws ReflectiveOperationException {
        Field field = owner.getClass().getDeclaredField(name);
        field.setAccessible(true);
        return field.get(owner);
    }

    private static void writeBlocks() {
        CHECKS.promise(47);
        InterlockingBox box = Boxes.withBlocks(1, 1, 1, 1, 1);
        box.addLink(1, 2);
        box.addTrain(1, 2);
        box.setRoute(0);
        box.shut(3);
        CHECKS.due(7, box.writeBlocks(), "writeBlocks()");
        CHECKS.due("fo0r0sf", Boxes.line(box, 7), "the line of writeBlocks()");
        CHECKS.throwsOnly(Checks.INDEX, () -> box.charAt(7), "charAt(7)");
        box.shut(1);
        CHECKS.due("fsr0sf", Boxes.blocks(box), "writeBlocks() with a shut and occupied block");
        CHECKS.due(0, new InterlockingBox().writeBlocks(), "writeBlocks() without blocks");
        InterlockingBox many = Boxes.row(1, 1);
        for (int i = 0; i < 11; i++) {
            many.addTrain(0, 1);
            many.pass(2);
        }
        many.addTrain(0, 1);
        CHECKS.due("o11f", Boxes.blocks(many), "writeBlocks() with a number of two digits");
    }

    private static void writeTrain() {
        CHECKS.promise(48);
        InterlockingBox box = Boxes.withBlocks(1, 1, 1, 1, 1, 1);
        box.addLink(0, 2);
        box.addLink(2, 5);
        box.addTrain(1, 0);
        box.addTrain(3, 0);
        box.addTrain(4, 0);
        box.addTrain(0, 5);
        CHECKS.due("3@0?5", Boxes.train(box, 3), "writeTrain(3) without a set route");
        box.setRoute(3);
        CHECKS.due(7, box.writeTrain(3), "writeTrain(3)");
        CHECKS.due("3@0>2>5", Boxes.train(box, 3), "writeTrain(3) with a set route");
        box.pass(1);
        CHECKS.due("3@2>5", Boxes.train(box, 3), "writeTrain(3) on the way");
        CHECKS.throwsAndKeeps(box, Checks.ELEMENT, () -> box.writeTrain(4), "writeTrain(4)");
        CHECKS.throwsAndKeeps(box, Checks.ELEMENT, () -> box.writeTrain(-1), "writeTrain(-1)");
        InterlockingBox wide = Boxes.row(1, 1, 1, 1, 1, 1, 1, 1, 1, 1, 1, 1);
        wide.addTrain(8, 11);
        wide.setRoute(0);
        CHECKS.due("0@8>9>10>11", Boxes.train(wide, 0), "writeTrain(0) with numbers of two digits");
    }

    private static void charAt() {
        CHECKS.promise(49);
        InterlockingBox box = Boxes.row(1, 1);
        CHECKS.throwsOnly(Checks.INDEX, () -> box.charAt(0), "charAt(0)");
        box.addTrain(0, 1);
        box.writeTrain(0);
        CHECKS.due('0', box.charAt(0), "charAt(0)");
        CHECKS.due('?', box.charAt(3), "charAt(3)");
        CHECKS.due('1', box.charAt(4), "charAt(4)");
        CHECKS.throwsOnly(Checks.INDEX, () -> box.charAt(5), "charAt(5)");
        CHECKS.throwsOnly(Checks.INDEX, () -> box.charAt(-1), "charAt(-1)");
        box.undo();
        CHECKS.due('@', box.charAt(1), "charAt(1) after undo");
        box.writeBlocks();
        CHECKS.due('f', box.charAt(1), "charAt(1) of the new line");
        CHECKS.throwsOnly(Checks.INDEX, () -> box.charAt(2), "charAt(2) of the new line");
    }
}
