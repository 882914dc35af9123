/** Promises 33 to 40: waiting, deadlocks, conflicts and refusals. */
public final class WaitingTest {
    private static final Checks CHECKS = new Checks();

    public static void main(String[] args) {
        waitsFor();
        deadlocks();
        twoCircles();
        noCircle();
        conflict();
        conflictOfPresentRoutes();
        mostWithoutConflict();
        mostOfTrainsApart();
        eachWayAlone();
        refusals();
        refusalsOfOthers();
        CHECKS.end();
    }

    private static void waitsFor() {
        CHECKS.promise(33);
        InterlockingBox box = Boxes.row(1, 1, 1, 1);
        box.addTrain(0, 2);
        box.addTrain(2, 3);
        CHECKS.due(true, box.waitsFor(0, 1), "waitsFor an occupied block");
        CHECKS.due(false, box.waitsFor(1, 0), "waitsFor(1, 0)");
        CHECKS.due(false, box.waitsFor(0, 0), "waitsFor(0, 0)");
        box.setRoute(1);
        box.addTrain(1, 3);
        CHECKS.due(true, box.waitsFor(2, 1), "waitsFor(2, 1)");
        CHECKS.due(false, box.waitsFor(1, 2), "waitsFor of a train with a set route");
        CHECKS.due(true, box.waitsFor(0, 2), "waitsFor(0, 2)");
        box.pass(1);
        CHECKS.throwsOnly(Checks.ELEMENT, () -> box.waitsFor(0, 1), "waitsFor an arrived train");
        CHECKS.throwsOnly(Checks.ELEMENT, () -> box.waitsFor(3, 0), "waitsFor(3, 0)");
        CHECKS.throwsOnly(Checks.ELEMENT, () -> box.waitsFor(0, -1), "waitsFor(0, -1)");
        CHECKS.throwsOnly(Checks.ELEMENT, () -> box.waitsFor(9, 9), "waitsFor(9, 9)");
        InterlockingBox reserved = Boxes.withBlocks(1, 1, 1, 1, 1);
        reserved.addLink(0, 2);
        reserved.addLink(1, 2);
        reserved.addLink(2, 3);
        reserved.addTrain(0, 3);
        reserved.addTrain(1, 3);
        reserved.addTrain(4, 3);
        reserved.setRoute(0);
        CHECKS.due(true, reserved.waitsFor(1, 0), "waitsFor a reserved block");
        CHECKS.due(false, reserved.waitsFor(2, 0), "waitsFor without a route");
    }

    private static void deadlocked(int want, InterlockingBox box, String what) {
        CHECKS.promise(34);
        CHECKS.due(want, box.deadlocked(), "deadlocked() " + what);
        CHECKS.promise(35);
        CHECKS.due(want, box.deadlockedByPairs(), "deadlockedByPairs() " + what);
    }

    private static void deadlocks() {
        deadlocked(0, new InterlockingBox(), "without trains");
        InterlockingBox box = Boxes.circle(1, 1, 1, 1);
        box.addTrain(0, 2);
        deadlocked(0, box, "of one train");
        box.addTrain(2, 0);
        deadlocked(2, box, "of two trains");
        box.addTrain(1, 3);
        deadlocked(3, box, "of three trains");
        box.releaseRoute(setOnly(box));
        deadlocked(3, box, "after setRoute and releaseRoute elsewhere");
    }

    /** Puts a train beside the others, and sets its route. */
    private static int setOnly(InterlockingBox box) {
        int block = box.addBlock(1);
        int end = box.addBlock(1);
        box.addLink(block, end);
        int train = box.addTrain(block, end);
        box.setRoute(train);
        deadlocked(3, box, "with a train beside it");
        return train;
    }

    private static void twoCircles() {
        InterlockingBox box = Boxes.withBlocks(1, 1, 1, 1, 1, 1, 1);
        box.addLink(0, 1);
        box.addLink(1, 0);
        box.addLink(2, 3);
        box.addLink(3, 4);
        box.addLink(4, 2);
        box.addLink(5, 0);
        box.addTrain(5, 0);
        box.addTrain(2, 3);
        box.addTrain(0, 1);
        box.addTrain(3, 4);
        box.addTrain(1, 0);
        deadlocked(2, box, "with a train that only waits for it");
        box.addTrain(4, 2);
        deadlocked(5, box, "in two circles");
        box.addTrain(6, 0);
        deadlocked(5, box, "with a train without a route");
    }

    private static void noCircle() {
        InterlockingBox box = Boxes.row(1, 1, 1, 1);
        box.addTrain(0, 1);
        box.addTrain(1, 2);
        box.addTrain(2, 3);
        deadlocked(0, box, "in a row");
        InterlockingBox broken = Boxes.circle(1, 1, 1, 1);
        broken.addTrain(0, 1);
        broken.addTrain(1, 2);
        broken.addTrain(3, 0);
        deadlocked(0, broken, "with a way out");
        broken.setRoute(1);
        deadlocked(0, broken, "with a set route");
        broken.addBlock(1);
    }

    private static void conflict() {
        CHECKS.promise(36);
        InterlockingBox box = Boxes.withBlocks(1, 1, 1, 1, 1, 1);
        box.addLink(0, 2);
        box.addLink(1, 2);
        box.addLink(2, 3);
        box.addLink(4, 0);
        box.addTrain(0, 2);
        box.addTrain(1, 3);
        box.addTrain(4, 0);
        box.addTrain(5, 3);
        CHECKS.due(true, box.conflict(0, 1), "conflict(0, 1)");
        CHECKS.due(true, box.conflict(1, 0), "conflict(1, 0)");
        CHECKS.due(false, box.conflict(0, 2), "conflict only in a first block");
        CHECKS.due(false, box.conflict(1, 3), "conflict without a route");
        box.setRoute(1);
        CHECKS.due(true, box.conflict(0, 1), "conflict(0, 1) with a set route");
        CHECKS.throwsOnly(Checks.ARGUMENT, () -> box.conflict(1, 1), "conflict(1, 1)");
        CHECKS.throwsOnly(Checks.ELEMENT, () -> box.conflict(4, 4), "conflict(4, 4)");
        CHECKS.throwsOnly(Checks.ELEMENT, () -> box.conflict(0, 4), "conflict(0, 4)");
        CHECKS.throwsOnly(Checks.ELEMENT, () -> box.conflict(-1, 0), "conflict(-1, 0)");
        box.pass(2);
        CHECKS.throwsOnly(Checks.ELEMENT, () -> box.conflict(0, 1), "conflict with an arrived train");
    }

    /** The routes that conflict are those from the blocks to the destinations, not the set ones. */
    private static void conflictOfPresentRoutes() {
        CHECKS.promise(36);
        InterlockingBox box = Boxes.withBlocks(1, 9, 1, 1, 1);
        box.addPoint(0, 1, 2);
        box.addLink(1, 3);
        box.addTrain(0, 3);
        box.setRoute(0);
        box.addLink(4, 2);
        box.addTrain(4, 2);
        CHECKS.due(false, box.conflict(0, 1), "conflict(0, 1) before the shorter way");
        box.addLink(2, 3);
        CHECKS.due(true, box.conflict(0, 1), "conflict(0, 1) after it");
    }

    private static void most(int want, InterlockingBox box, String what) {
        CHECKS.promise(37);
        CHECKS.due(want, box.mostWithoutConflict(), "mostWithoutConflict() " + what);
        CHECKS.promise(38);
        CHECKS.due(want, box.mostWithoutConflictBySets(), "mostWithoutConflictBySets() " + what);
    }

    private static void mostWithoutConflict() {
        most(0, new InterlockingBox(), "without trains");
        InterlockingBox box = Boxes.row(1, 1, 1, 1, 1, 1);
        box.addTrain(0, 5);
        most(1, box, "of one train");
        box.addTrain(1, 2);
        box.addTrain(2, 3);
        box.addTrain(3, 4);
        most(3, box, "where the first conflicts with all");
        box.addTrain(4, 0);
        most(4, box, "with a train without a route");
    }

    private static void mostOfTrainsApart() {
        InterlockingBox apart = Boxes.withBlocks(1, 1, 1, 1, 1, 1, 1, 1);
        for (int i = 0; i < 8; i++) {
            apart.addTrain(i, (i + 1) % 8);
        }
        most(8, apart, "of eight trains without routes");
        apart.addLink(0, 7);
        apart.addLink(6, 7);
        apart.addLink(5, 6);
        most(8, apart, "with links that lead elsewhere");
    }

    /** No way of counting may rest on what another one has looked at. */
    private static void eachWayAlone() {
        InterlockingBox box = Boxes.circle(1, 1, 1, 1);
        box.addTrain(0, 1);
        box.addTrain(1, 0);
        CHECKS.promise(35);
        CHECKS.due(2, box.deadlockedByPairs(), "deadlockedByPairs()");
        CHECKS.promise(38);
        CHECKS.due(2, box.mostWithoutConflictBySets(), "mostWithoutConflictBySets()");
        box.addTrain(2, 3);
        CHECKS.promise(34);
        CHECKS.due(2, box.deadlocked(), "deadlocked()");
        CHECKS.promise(37);
        CHECKS.due(2, box.mostWithoutConflict(), "mostWithoutConflict()");
        box.undo();
        box.undo();
        CHECKS.promise(38);
        CHECKS.due(1, box.mostWithoutConflictBySets(), "mostWithoutConflictBySets()");
        CHECKS.promise(35);
        CHECKS.due(0, box.deadlockedByPairs(), "deadlockedByPairs()");
    }

    private static void refusals() {
        InterlockingBox box = Boxes.row(1, 1, 1, 1);
        refused(box, Checks.ELEMENT, Checks.ELEMENT, "in a new box");
        box.addTrain(0, 3);
        box.addTrain(3, 0);
        box.shut(2);
        CHECKS.throwsOnly(Checks.REFUSED, () -> box.setRoute(0), "setRoute(0)");
        refused(box, 's', 2, "over a shut block before an occupied one");
        box.open(2);
        refused(box, 's', 2, "after open");
        CHECKS.throwsOnly(Checks.REFUSED, () -> box.setRoute(0), "setRoute(0)");
        refused(box, 'o', 3, "over an occupied block");
        CHECKS.throwsOnly(Checks.REFUSED, () -> box.setRoute(1), "setRoute(1)");
        refused(box, 'n', Checks.ELEMENT, "without a route");
        box.addTrain(1, 2);
        box.setRoute(2);
        CHECKS.throwsOnly(Checks.REFUSED, () -> box.setRoute(0), "setRoute(0)");
        refused(box, 'o', 1, "at the first of several blocks");
        InterlockingBox behind = Boxes.circle(1, 1, 1, 1);
        behind.addTrain(3, 2);
        behind.shut(1);
        CHECKS.throwsOnly(Checks.REFUSED, () -> behind.setRoute(0), "setRoute(0)");
        refused(behind, 's', 1, "behind block 0");
        behind.addTrain(0, 1);
        CHECKS.throwsOnly(Checks.REFUSED, () -> behind.setRoute(0), "setRoute(0)");
        refused(behind, 'o', 0, "at block 0");
        InterlockingBox reserved = Boxes.row(1, 1, 1);
        reserved.addTrain(1, 2);
        reserved.setRoute(0);
        reserved.addBlock(1);
        reserved.addLink(3, 2);
        reserved.addTrain(3, 2);
        CHECKS.throwsOnly(Checks.REFUSED, () -> reserved.setRoute(1), "setRoute(1)");
        refused(reserved, 'r', 2, "over a reserved block");
        reserved.undo();
        refused(reserved, 'r', 2, "after undo");
        CHECKS.throwsOnly(Checks.REFUSED, () -> Boxes.run(reserved, "train 3>0;set 1"), "a program");
        refused(reserved, 'n', Checks.ELEMENT, "in a program that failed");
    }

    private static void refused(InterlockingBox box, Object reason, Object block, String when) {
        CHECKS.promise(39);
        CHECKS.due(reason, valueOrKind(box::refusalReason), "refusalReason() " + when);
        CHECKS.promise(40);
        CHECKS.due(block, valueOrKind(box::refusalBlock), "refusalBlock() " + when);
    }

    private static Object valueOrKind(Checks.Call call) {
        try {
            return call.answer();
        } catch (RuntimeException e) {
            return e.getClass();
        }
    }

    /** Neither a minute nor another exception of setRoute is a refusal. */
    private static void refusalsOfOthers() {
        InterlockingBox box = Boxes.row(1, 1, 1);
        box.addTrain(2, 0);
        box.addTrain(0, 1);
        box.pass(1);
        CHECKS.throwsOnly(Checks.STATE, () -> box.setRoute(1), "setRoute(1)");
        CHECKS.throwsOnly(Checks.ELEMENT, () -> box.setRoute(7), "setRoute(7)");
        refused(box, Checks.ELEMENT, Checks.ELEMENT, "without a refusal");
    }
}
