/** Promises 1 to 7 and 12 to 17: the line and its properties. */
public final class LineTest {
    private static final Checks CHECKS = new Checks();

    public static void main(String[] args) {
        newObject();
        addBlock();
        addPoint();
        addPointInOrder();
        addLink();
        shut();
        open();
        throwPoint();
        blockProperties();
        trainAt();
        pointProperties();
        CHECKS.end();
    }

    private static void newObject() {
        CHECKS.promise(1);
        InterlockingBox box = new InterlockingBox();
        CHECKS.due(0, box.blocks(), "blocks()");
        CHECKS.due(0, box.trains(), "trains()");
        CHECKS.due(0, box.time(), "time()");
        CHECKS.due(0, box.arrived(), "arrived()");
        CHECKS.due(0L, box.totalDelay(), "totalDelay()");
        CHECKS.due(0, box.writeBlocks(), "writeBlocks()");
        CHECKS.due(true, box.isConsistent(), "isConsistent()");
        CHECKS.throwsOnly(Checks.STATE, box::undo, "undo()");
        CHECKS.throwsOnly(Checks.STATE, box::restore, "restore()");
        CHECKS.throwsOnly(Checks.INDEX, () -> box.liesLeft(0), "liesLeft(0)");
    }

    private static void addBlock() {
        CHECKS.promise(2);
        InterlockingBox box = new InterlockingBox();
        CHECKS.throwsAndKeeps(box, Checks.ARGUMENT, () -> box.addBlock(0), "addBlock(0)");
        CHECKS.throwsAndKeeps(box, Checks.ARGUMENT, () -> box.addBlock(10), "addBlock(10)");
        CHECKS.throwsAndKeeps(box, Checks.ARGUMENT, () -> box.addBlock(-3), "addBlock(-3)");
        for (int i = 0; i < 12; i++) {
            CHECKS.due(i, box.addBlock(i % 9 + 1), "addBlock");
        }
        CHECKS.due(9, box.blockLength(8), "blockLength(8)");
        CHECKS.throwsAndKeeps(box, Checks.STATE, () -> box.addBlock(1), "addBlock(1) as the thirteenth");
        CHECKS.throwsAndKeeps(box, Checks.ARGUMENT, () -> box.addBlock(10), "addBlock(10) as the thirteenth");
    }

    private static void addPoint() {
        CHECKS.promise(3);
        InterlockingBox box = Boxes.withBlocks(1, 1, 1, 1, 1, 1, 1, 1, 1, 1, 1, 1);
        for (int i = 0; i < 8; i++) {
            CHECKS.due(i, box.addPoint(i, 10, 11), "addPoint");
        }
        CHECKS.throwsAndKeeps(box, Checks.STATE, () -> box.addPoint(8, 10, 11), "a ninth addPoint");
        CHECKS.due(1, box.addLink(8, 9), "addLink(8, 9)");
        InterlockingBox sides = Boxes.withBlocks(1, 1, 1);
        sides.addPoint(0, 2, 1);
        sides.addTrain(0, 2);
        sides.setRoute(0);
        CHECKS.due(true, sides.liesLeft(0), "liesLeft(0) for the left branch");
    }

    private static void addPointInOrder() {
        CHECKS.promise(3);
        InterlockingBox box = Boxes.withBlocks(1, 1, 1, 1);
        CHECKS.due(0, box.addPoint(0, 1, 2), "addPoint(0, 1, 2)");
        box.addLink(1, 0);
        CHECKS.throwsAndKeeps(box, Checks.STATE, () -> box.addPoint(0, 2, 3), "addPoint of a stem");
        CHECKS.throwsAndKeeps(box, Checks.STATE, () -> box.addPoint(1, 2, 3), "addPoint of a linked block");
        CHECKS.throwsAndKeeps(box, Checks.INDEX, () -> box.addPoint(4, 1, 1), "addPoint(4, 1, 1)");
        CHECKS.throwsAndKeeps(box, Checks.INDEX, () -> box.addPoint(2, -1, 2), "addPoint(2, -1, 2)");
        CHECKS.throwsAndKeeps(box, Checks.INDEX, () -> box.addPoint(2, 2, 4), "addPoint(2, 2, 4)");
        CHECKS.throwsAndKeeps(box, Checks.ARGUMENT, () -> box.addPoint(0, 0, 1), "addPoint(0, 0, 1)");
        CHECKS.throwsAndKeeps(box, Checks.ARGUMENT, () -> box.addPoint(0, 1, 0), "addPoint(0, 1, 0)");
        CHECKS.throwsAndKeeps(box, Checks.ARGUMENT, () -> box.addPoint(2, 1, 1), "addPoint(2, 1, 1)");
        CHECKS.due(1, box.addPoint(2, 0, 1), "addPoint(2, 0, 1)");
    }

    private static void addLink() {
        CHECKS.promise(4);
        InterlockingBox box = Boxes.withBlocks(1, 1, 1, 1);
        box.addPoint(0, 1, 2);
        CHECKS.due(1, box.addLink(1, 0), "addLink(1, 0)");
        CHECKS.due(2, box.addLink(2, 0), "addLink(2, 0)");
        CHECKS.due(1, box.paths(1, 0), "paths(1, 0)");
        CHECKS.due(0, box.paths(3, 0), "paths(3, 0)");
        CHECKS.throwsAndKeeps(box, Checks.STATE, () -> box.addLink(0, 3), "addLink from a stem");
        CHECKS.throwsAndKeeps(box, Checks.STATE, () -> box.addLink(1, 3), "addLink from a linked block");
        CHECKS.throwsAndKeeps(box, Checks.ARGUMENT, () -> box.addLink(0, 0), "addLink(0, 0)");
        CHECKS.throwsAndKeeps(box, Checks.ARGUMENT, () -> box.addLink(3, 3), "addLink(3, 3)");
        CHECKS.throwsAndKeeps(box, Checks.INDEX, () -> box.addLink(4, 4), "addLink(4, 4)");
        CHECKS.throwsAndKeeps(box, Checks.INDEX, () -> box.addLink(3, 4), "addLink(3, 4)");
        CHECKS.throwsAndKeeps(box, Checks.INDEX, () -> box.addLink(-1, 3), "addLink(-1, 3)");
        CHECKS.due(3, box.addLink(3, 0), "addLink(3, 0)");
    }

    private static void shut() {
        CHECKS.promise(5);
        InterlockingBox box = Boxes.row(1, 2, 1, 1);
        CHECKS.due(1, box.shut(3), "shut(3)");
        box.addTrain(0, 2);
        CHECKS.due(2, box.shut(0), "shut of an occupied block");
        CHECKS.due(3, box.setRoute(0), "setRoute(0) from a shut block");
        CHECKS.throwsAndKeeps(box, Checks.STATE, () -> box.shut(0), "shut of a shut block");
        CHECKS.throwsAndKeeps(box, Checks.STATE, () -> box.shut(1), "shut of a reserved block");
        CHECKS.throwsAndKeeps(box, Checks.STATE, () -> box.shut(2), "shut of a reserved destination");
        CHECKS.throwsAndKeeps(box, Checks.INDEX, () -> box.shut(4), "shut(4)");
        CHECKS.throwsAndKeeps(box, Checks.INDEX, () -> box.shut(-1), "shut(-1)");
        CHECKS.due(1, box.pass(3), "pass(3) over blocks that are not shut");
        CHECKS.due(3, box.shut(2), "shut(2) after the arrival");
    }

    private static void open() {
        CHECKS.promise(6);
        InterlockingBox box = Boxes.row(1, 2, 1);
        box.shut(0);
        box.shut(1);
        CHECKS.due(1, box.open(0), "open(0)");
        CHECKS.throwsAndKeeps(box, Checks.STATE, () -> box.open(0), "open of an open block");
        CHECKS.throwsAndKeeps(box, Checks.INDEX, () -> box.open(3), "open(3)");
        CHECKS.throwsAndKeeps(box, Checks.INDEX, () -> box.open(-1), "open(-1)");
        CHECKS.due(0, box.open(1), "open(1)");
        CHECKS.due("fff", Boxes.blocks(box), "writeBlocks()");
    }

    private static void throwPoint() {
        CHECKS.promise(7);
        InterlockingBox box = Boxes.diamond(1, 3, 1, 1);
        CHECKS.due(false, box.throwPoint(0), "throwPoint(0)");
        CHECKS.due(true, box.throwPoint(0), "throwPoint(0) again");
        CHECKS.throwsAndKeeps(box, Checks.INDEX, () -> box.throwPoint(1), "throwPoint(1)");
        CHECKS.throwsAndKeeps(box, Checks.INDEX, () -> box.throwPoint(-1), "throwPoint(-1)");
        box.addTrain(0, 3);
        CHECKS.due(false, box.throwPoint(0), "throwPoint(0) under a train without a route");
        box.throwPoint(0);
        box.setRoute(0);
        CHECKS.throwsAndKeeps(box, Checks.STATE, () -> box.throwPoint(0), "throwPoint of a locked point");
        box.pass(1);
        CHECKS.due(true, box.throwPoint(0), "throwPoint behind the train");
        box.addPoint(3, 0, 1);
        CHECKS.due(false, box.throwPoint(1), "throwPoint of the last block's point");
    }

    private static void blockProperties() {
        CHECKS.promise(12);
        InterlockingBox box = Boxes.row(4, 9, 1);
        CHECKS.due(3, box.blocks(), "blocks()");
        CHECKS.promise(13);
        CHECKS.due(4, box.blockLength(0), "blockLength(0)");
        CHECKS.due(9, box.blockLength(1), "blockLength(1)");
        CHECKS.throwsOnly(Checks.INDEX, () -> box.blockLength(3), "blockLength(3)");
        CHECKS.throwsOnly(Checks.INDEX, () -> box.blockLength(-1), "blockLength(-1)");
        CHECKS.promise(14);
        box.addTrain(0, 1);
        CHECKS.due('o', box.blockState(0), "blockState(0)");
        CHECKS.due('f', box.blockState(1), "blockState(1)");
        box.setRoute(0);
        CHECKS.due('r', box.blockState(1), "blockState(1) when reserved");
        box.shut(0);
        CHECKS.due('s', box.blockState(0), "blockState(0) when shut and occupied");
        box.pass(9);
        CHECKS.due('s', box.blockState(0), "blockState(0) when left");
        CHECKS.due('f', box.blockState(1), "blockState(1) after the arrival");
        CHECKS.throwsOnly(Checks.INDEX, () -> box.blockState(3), "blockState(3)");
        CHECKS.throwsOnly(Checks.INDEX, () -> box.blockState(-1), "blockState(-1)");
    }

    private static void trainAt() {
        CHECKS.promise(15);
        InterlockingBox box = Boxes.row(1, 1, 1, 1);
        box.addTrain(3, 0);
        box.addTrain(0, 2);
        box.setRoute(1);
        CHECKS.due(1, box.trainAt(0), "trainAt of an occupied block");
        CHECKS.due(1, box.trainAt(2), "trainAt of a reserved block");
        CHECKS.due(0, box.trainAt(3), "trainAt(3)");
        box.shut(3);
        CHECKS.due(0, box.trainAt(3), "trainAt of a shut and occupied block");
        box.pass(1);
        CHECKS.throwsOnly(Checks.ELEMENT, () -> box.trainAt(0), "trainAt of a block that was left");
        CHECKS.throwsOnly(Checks.INDEX, () -> box.trainAt(4), "trainAt(4)");
        CHECKS.throwsOnly(Checks.INDEX, () -> box.trainAt(-1), "trainAt(-1)");
    }

    private static void pointProperties() {
        InterlockingBox box = Boxes.diamond(1, 3, 1, 1);
        box.addPoint(3, 0, 1);
        CHECKS.promise(16);
        CHECKS.due(true, box.liesLeft(0), "liesLeft(0)");
        box.addTrain(0, 3);
        box.setRoute(0);
        CHECKS.due(false, box.liesLeft(0), "liesLeft(0) on the route");
        CHECKS.due(true, box.liesLeft(1), "liesLeft(1) behind the route");
        CHECKS.throwsOnly(Checks.INDEX, () -> box.liesLeft(2), "liesLeft(2)");
        CHECKS.throwsOnly(Checks.INDEX, () -> box.liesLeft(-1), "liesLeft(-1)");
        CHECKS.promise(17);
        CHECKS.due(0, box.lockedBy(0), "lockedBy(0)");
        CHECKS.throwsOnly(Checks.ELEMENT, () -> box.lockedBy(1), "lockedBy of the last block's point");
        CHECKS.throwsOnly(Checks.INDEX, () -> box.lockedBy(2), "lockedBy(2)");
        CHECKS.throwsOnly(Checks.INDEX, () -> box.lockedBy(-1), "lockedBy(-1)");
        box.pass(1);
        CHECKS.throwsOnly(Checks.ELEMENT, () -> box.lockedBy(0), "lockedBy behind the train");
    }
}
