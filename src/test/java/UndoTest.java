/** Promises 54 to 56: undo and snapshots. */
public final class UndoTest {
    private static final Checks CHECKS = new Checks();

    private interface Change {
        void on(InterlockingBox box);
    }

    public static void main(String[] args) {
        undoOfEachChange();
        eightChanges();
        failuresAreNoChanges();
        savesAreNoChanges();
        savedStateStays();
        whatIsNotUndone();
        save();
        restore();
        CHECKS.end();
    }

    /** A box in which each kind of change can succeed. */
    private static InterlockingBox anyBox() {
        InterlockingBox box = Boxes.diamond(1, 2, 2, 3);
        box.addBlock(1);
        box.addBlock(1);
        box.addBlock(1);
        box.addLink(4, 5);
        box.addTrain(6, 0);
        box.pass(2);
        box.shut(2);
        box.addTrain(0, 3);
        box.addTrain(4, 5);
        box.setRoute(2);
        return box;
    }

    private static void undoOfEachChange() {
        CHECKS.promise(54);
        Change[] changes = {b -> b.addBlock(3), b -> b.addPoint(3, 0, 4), b -> b.addLink(3, 0), b -> b.shut(3),
            b -> b.open(2), b -> b.throwPoint(0), b -> b.addTrain(1, 3), b -> b.setRoute(1),
            b -> b.releaseRoute(2), b -> b.pass(1), b -> b.pass(200), b -> Boxes.run(b, "free 2;block 1;wait 3")};
        for (int i = 0; i < changes.length; i++) {
            InterlockingBox box = anyBox();
            String before = Picture.stateOf(box);
            changes[i].on(box);
            CHECKS.due(false, before.equals(Picture.stateOf(box)), "no difference after change " + i);
            CHECKS.due(7, box.undo(), "undo() of change " + i);
            CHECKS.due(before, Picture.stateOf(box), "the state after undo() of change " + i);
        }
        undoOfAShorterWay();
        InterlockingBox box = anyBox();
        box.undo();
        box.undo();
        CHECKS.due(2, box.addTrain(4, 5), "addTrain after undo() gives the number again");
    }

    private static void undoOfAShorterWay() {
        InterlockingBox box = Boxes.withBlocks(1, 9, 1, 1, 5);
        box.addPoint(0, 1, 2);
        box.addLink(1, 3);
        box.addLink(3, 4);
        box.addTrain(0, 4);
        String before = Picture.stateOf(box);
        box.addLink(2, 4);
        CHECKS.due(6, box.routeLength(0, 4), "routeLength(0, 4)");
        box.undo();
        CHECKS.due(before, Picture.stateOf(box), "the state after undo() of a link");
        CHECKS.due(1, box.routeBlock(0, 4, 1), "routeBlock(0, 4, 1)");
        CHECKS.due(15, box.setRoute(0), "setRoute(0)");
        CHECKS.due(1, box.addPoint(2, 3, 4), "addPoint of the stem whose link was undone");
    }

    private static void eightChanges() {
        CHECKS.promise(54);
        InterlockingBox box = new InterlockingBox();
        for (int i = 1; i <= 11; i++) {
            box.addBlock(1);
        }
        for (int i = 7; i >= 0; i--) {
            CHECKS.due(i, box.undo(), "undo()");
            CHECKS.due(3 + i, box.blocks(), "blocks()");
        }
        CHECKS.throwsAndKeeps(box, Checks.STATE, box::undo, "a ninth undo()");
        box.addBlock(2);
        box.addBlock(3);
        CHECKS.due(1, box.undo(), "undo() after new changes");
        box.pass(1);
        CHECKS.due(1, box.undo(), "undo() of another change");
        CHECKS.due(4, box.blocks(), "blocks()");
        CHECKS.due(0, box.undo(), "undo() of the change before");
        CHECKS.due(3, box.blocks(), "blocks()");
    }

    private static void failuresAreNoChanges() {
        CHECKS.promise(54);
        InterlockingBox box = Boxes.row(1, 1);
        for (int i = 0; i < 12; i++) {
            CHECKS.throwsOnly(Checks.ARGUMENT, () -> box.addBlock(0), "addBlock(0)");
            CHECKS.throwsOnly(Checks.ELEMENT, () -> box.setRoute(0), "setRoute(0)");
            CHECKS.throwsOnly(Checks.ARGUMENT, () -> Boxes.run(box, "wait;"), "a text that is no program");
            CHECKS.throwsOnly(Checks.REFUSED, () -> Boxes.run(box, "wait;set 0"), "a program that fails");
        }
        CHECKS.due(2, box.undo(), "undo()");
        CHECKS.due(1, box.undo(), "undo()");
        CHECKS.due(1, box.blocks(), "blocks()");
    }

    private static void savesAreNoChanges() {
        CHECKS.promise(54);
        InterlockingBox box = Boxes.withBlocks(1, 1);
        box.save();
        box.writeBlocks();
        box.type('x');
        CHECKS.due(1, box.undo(), "undo() after save()");
        CHECKS.due(1, box.blocks(), "blocks()");
    }

    /** What is undone is the state, not the state that was saved from it. */
    private static void savedStateStays() {
        CHECKS.promise(56);
        InterlockingBox box = Boxes.withBlocks(1);
        box.save();
        box.addBlock(2);
        box.addBlock(3);
        box.save();
        CHECKS.due(2, box.undo(), "undo() of a change that was saved");
        CHECKS.due(1, box.undo(), "undo() of a change since the first save()");
        CHECKS.due(0, box.undo(), "undo() of a change before both");
        CHECKS.due(0, box.restore(), "restore() of a state without trains");
        CHECKS.due(3, box.blocks(), "blocks() of the state that was saved last");
        CHECKS.throwsOnly(Checks.STATE, box::undo, "undo() after restore()");
    }

    private static void whatIsNotUndone() {
        CHECKS.promise(54);
        InterlockingBox box = Boxes.withBlocks(1, 1);
        box.addTrain(0, 1);
        CHECKS.throwsOnly(Checks.REFUSED, () -> box.setRoute(0), "setRoute(0)");
        box.type('w');
        box.writeTrain(0);
        box.undo();
        CHECKS.due(2, box.type('a'), "type after undo()");
        CHECKS.due('n', box.refusalReason(), "refusalReason() after undo()");
        CHECKS.due('?', box.charAt(3), "charAt(3) after undo()");
        box.save();
        box.restore();
        CHECKS.due(3, box.type('i'), "type after restore()");
        CHECKS.due('n', box.refusalReason(), "refusalReason() after restore()");
        CHECKS.due('?', box.charAt(3), "charAt(3) after restore()");
        box.type('t');
        CHECKS.due(1, box.run(), "run() of what was typed");
    }

    private static void save() {
        CHECKS.promise(55);
        InterlockingBox box = anyBox();
        String before = Picture.of(box);
        CHECKS.due(3, box.save(), "save()");
        CHECKS.due(before, Picture.of(box), "the box after save()");
        box.pass(1);
        String later = Picture.stateOf(box);
        CHECKS.due(2, box.save(), "save() again");
        box.addBlock(1);
        box.restore();
        CHECKS.due(later, Picture.stateOf(box), "the state that was saved last");
    }

    private static void restore() {
        CHECKS.promise(56);
        InterlockingBox box = anyBox();
        CHECKS.throwsAndKeeps(box, Checks.STATE, box::restore, "restore() before save()");
        String before = Picture.stateOf(box);
        box.save();
        box.open(2);
        box.pass(9);
        box.addTrain(1, 3);
        CHECKS.due(3, box.restore(), "restore()");
        CHECKS.due(before, Picture.stateOf(box), "the state after restore()");
        CHECKS.throwsAndKeeps(box, Checks.STATE, box::undo, "undo() after restore()");
        box.pass(3);
        box.addBlock(2);
        CHECKS.due(1, box.undo(), "undo() of a change after restore()");
        CHECKS.due(3, box.restore(), "restore() again");
        CHECKS.due(before, Picture.stateOf(box), "the state after another restore()");
        CHECKS.throwsAndKeeps(box, Checks.STATE, box::undo, "undo() after another restore()");
        box.pass(1);
        CHECKS.due(0, box.undo(), "undo()");
        CHECKS.due(before, Picture.stateOf(box), "the state after undo()");
    }
}
