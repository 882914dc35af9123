/** Promises 8 to 11 and 22 to 32: trains, their routes and their running. */
public final class TrainTest {
    private static final Checks CHECKS = new Checks();

    public static void main(String[] args) {
        addTrain();
        addTrainRefused();
        setRoute();
        setRouteRefused();
        releaseRoute();
        pass();
        passInOrder();
        passQueue();
        places();
        isClear();
        minutes();
        delay();
        queued();
        routeStaysAsSet();
        CHECKS.end();
    }

    private static void addTrain() {
        CHECKS.promise(8);
        InterlockingBox box = Boxes.circle(1, 1, 1, 1, 1, 1, 1, 1, 1, 1);
        for (int i = 0; i < 8; i++) {
            CHECKS.due(i, box.addTrain(i, 9), "addTrain");
        }
        CHECKS.due("0 1 2 3 4 5 6 7", Boxes.queue(box), "the queue");
        CHECKS.due(false, box.hasRoute(7), "hasRoute(7)");
        CHECKS.throwsAndKeeps(box, Checks.STATE, () -> box.addTrain(8, 9), "a ninth addTrain");
        CHECKS.throwsAndKeeps(box, Checks.ARGUMENT, () -> box.addTrain(8, 8), "addTrain(8, 8) as the ninth");
        CHECKS.due(1, box.pass(3), "pass(3)");
        box.addBlock(1);
        CHECKS.due(8, box.addTrain(10, 0), "addTrain after an arrival");
    }

    private static void addTrainRefused() {
        CHECKS.promise(8);
        InterlockingBox box = Boxes.row(1, 1, 1, 1);
        box.shut(3);
        box.addTrain(0, 2);
        box.setRoute(0);
        CHECKS.throwsAndKeeps(box, Checks.STATE, () -> box.addTrain(0, 1), "addTrain on an occupied block");
        CHECKS.throwsAndKeeps(box, Checks.STATE, () -> box.addTrain(1, 0), "addTrain on a reserved block");
        CHECKS.throwsAndKeeps(box, Checks.STATE, () -> box.addTrain(3, 0), "addTrain on a shut block");
        CHECKS.throwsAndKeeps(box, Checks.ARGUMENT, () -> box.addTrain(0, 0), "addTrain(0, 0)");
        CHECKS.throwsAndKeeps(box, Checks.INDEX, () -> box.addTrain(4, 4), "addTrain(4, 4)");
        CHECKS.throwsAndKeeps(box, Checks.INDEX, () -> box.addTrain(0, -1), "addTrain(0, -1)");
        box.pass(1);
        CHECKS.due(1, box.addTrain(0, 3), "addTrain for a shut destination");
    }

    private static void setRoute() {
        CHECKS.promise(9);
        InterlockingBox box = Boxes.diamond(1, 5, 3, 4);
        box.addTrain(1, 3);
        box.addTrain(0, 2);
        CHECKS.due(3, box.setRoute(1), "setRoute of the second of the queue");
        CHECKS.due("0", Boxes.queue(box), "the queue");
        CHECKS.due("o1o0r1f", Boxes.blocks(box), "the blocks");
        CHECKS.due(false, box.liesLeft(0), "liesLeft(0)");
        CHECKS.due(1, box.lockedBy(0), "lockedBy(0)");
        CHECKS.due(4, box.setRoute(0), "setRoute(0)");
        CHECKS.due("", Boxes.queue(box), "the queue");
        InterlockingBox points = Boxes.withBlocks(1, 1, 1, 1, 1, 1);
        points.addPoint(0, 4, 1);
        points.addPoint(1, 4, 2);
        points.addPoint(2, 3, 4);
        points.addPoint(3, 4, 5);
        points.throwPoint(2);
        points.throwPoint(3);
        points.addTrain(0, 3);
        points.setRoute(0);
        CHECKS.due(false, points.liesLeft(0), "liesLeft of the first point");
        CHECKS.due(false, points.liesLeft(1), "liesLeft of the second point");
        CHECKS.due(true, points.liesLeft(2), "liesLeft of the third point");
        CHECKS.due(false, points.liesLeft(3), "liesLeft of the destination's point");
        CHECKS.due(0, points.lockedBy(2), "lockedBy of the third point");
        InterlockingBox sum = Boxes.row(9, 2, 3, 4);
        sum.addTrain(0, 3);
        CHECKS.due(9, sum.setRoute(0), "setRoute over three blocks");
        InterlockingBox left = Boxes.diamond(1, 1, 3, 1);
        left.throwPoint(0);
        left.addTrain(0, 3);
        left.setRoute(0);
        CHECKS.due(true, left.liesLeft(0), "liesLeft(0) for the left way");
    }

    private static void setRouteRefused() {
        CHECKS.promise(9);
        InterlockingBox box = Boxes.row(1, 1, 1, 1, 1);
        box.addTrain(0, 2);
        box.addTrain(4, 3);
        CHECKS.throwsOnly(Checks.REFUSED, () -> box.setRoute(1), "setRoute without a route");
        CHECKS.due('n', box.refusalReason(), "refusalReason()");
        CHECKS.throwsAndKeeps(box, Checks.ELEMENT, () -> box.setRoute(2), "setRoute(2)");
        CHECKS.throwsAndKeeps(box, Checks.ELEMENT, () -> box.setRoute(-1), "setRoute(-1)");
        box.shut(2);
        String before = Picture.stateOf(box);
        CHECKS.throwsOnly(Checks.REFUSED, () -> box.setRoute(0), "setRoute over a shut block");
        CHECKS.due(before, Picture.stateOf(box), "the state after a refusal");
        box.open(2);
        box.setRoute(0);
        CHECKS.throwsAndKeeps(box, Checks.STATE, () -> box.setRoute(0), "setRoute of a set route");
        box.addTrain(3, 4);
        CHECKS.throwsOnly(Checks.REFUSED, () -> box.setRoute(2), "setRoute into an occupied block");
        CHECKS.due('o', box.refusalReason(), "refusalReason()");
        box.pass(2);
        CHECKS.throwsAndKeeps(box, Checks.ELEMENT, () -> box.setRoute(0), "setRoute of an arrived train");
    }

    private static void releaseRoute() {
        CHECKS.promise(10);
        InterlockingBox box = Boxes.diamond(1, 9, 2, 3);
        box.addTrain(0, 3);
        box.addTrain(1, 0);
        box.setRoute(0);
        CHECKS.due("1", Boxes.queue(box), "the queue");
        CHECKS.throwsAndKeeps(box, Checks.STATE, () -> box.releaseRoute(1), "releaseRoute without a set route");
        CHECKS.throwsAndKeeps(box, Checks.ELEMENT, () -> box.releaseRoute(2), "releaseRoute(2)");
        CHECKS.throwsAndKeeps(box, Checks.ELEMENT, () -> box.releaseRoute(-1), "releaseRoute(-1)");
        CHECKS.due(2, box.releaseRoute(0), "releaseRoute(0)");
        CHECKS.due("1 0", Boxes.queue(box), "the queue after releaseRoute");
        CHECKS.due("o0o1ff", Boxes.blocks(box), "the blocks after releaseRoute");
        CHECKS.due(false, box.liesLeft(0), "liesLeft(0) after releaseRoute");
        CHECKS.throwsOnly(Checks.ELEMENT, () -> box.lockedBy(0), "lockedBy(0) after releaseRoute");
        CHECKS.due(false, box.hasRoute(0), "hasRoute(0)");
        box.setRoute(0);
        box.pass(3);
        CHECKS.due(2, box.releaseRoute(0), "releaseRoute on the way");
        CHECKS.due("fo1o0f", Boxes.blocks(box), "the blocks after releaseRoute on the way");
        CHECKS.due(3, box.setRoute(0), "setRoute of the rest");
        CHECKS.due(3, box.minutesUntilNext(0), "the minutes begin anew");
    }

    private static void pass() {
        CHECKS.promise(11);
        InterlockingBox box = Boxes.row(9, 2, 3);
        CHECKS.throwsAndKeeps(box, Checks.ARGUMENT, () -> box.pass(0), "pass(0)");
        CHECKS.throwsAndKeeps(box, Checks.ARGUMENT, () -> box.pass(241), "pass(241)");
        CHECKS.throwsAndKeeps(box, Checks.ARGUMENT, () -> box.pass(-1), "pass(-1)");
        CHECKS.due(0, box.pass(240), "pass(240)");
        CHECKS.due(240, box.time(), "time()");
        box.addTrain(0, 2);
        box.setRoute(0);
        CHECKS.due(0, box.pass(1), "pass(1)");
        CHECKS.due("o0r0r0", Boxes.blocks(box), "the blocks before the minute");
        CHECKS.due(0, box.pass(1), "pass(1)");
        CHECKS.due("fo0r0", Boxes.blocks(box), "the blocks in the minute");
        CHECKS.due(0, box.pass(2), "pass(2)");
        CHECKS.due(1, box.pass(240), "pass(240) with an arrival");
        CHECKS.due("fff", Boxes.blocks(box), "the blocks after the arrival");
        CHECKS.due(1, box.arrived(), "arrived()");
    }

    /** The block of an arrival is free for the queue of its minute; the block behind a train too. */
    private static void passInOrder() {
        CHECKS.promise(11);
        InterlockingBox box = Boxes.row(1, 1, 1);
        box.addTrain(1, 2);
        box.addTrain(0, 2);
        CHECKS.due(0, box.pass(1), "pass(1) sets the first route");
        CHECKS.due("o1o0r0", Boxes.blocks(box), "the blocks");
        CHECKS.due(1, box.pass(1), "pass(1) brings the arrival");
        CHECKS.due("o1r1r1", Boxes.blocks(box), "the route is set in the minute of the arrival");
        CHECKS.due(1, box.minutesUntilNext(1), "minutesUntilNext(1)");
        CHECKS.due(1, box.delay(1), "delay(1)");
        CHECKS.due(1, box.pass(2), "pass(2)");
        CHECKS.due(2, box.arrived(), "arrived()");
    }

    private static void passQueue() {
        CHECKS.promise(11);
        InterlockingBox box = Boxes.withBlocks(1, 1, 1, 1);
        box.addLink(0, 2);
        box.addLink(1, 2);
        box.addLink(2, 3);
        box.addTrain(0, 3);
        box.addTrain(1, 2);
        box.setRoute(0);
        box.releaseRoute(0);
        CHECKS.due("1 0", Boxes.queue(box), "the queue");
        box.pass(1);
        CHECKS.due("0", Boxes.queue(box), "the queue after a minute");
        CHECKS.due("o0o1r1f", Boxes.blocks(box), "the first of the queue has the block");
        CHECKS.due(1, box.delay(0), "delay(0)");
        CHECKS.due(0, box.delay(1), "delay(1)");
        InterlockingBox two = Boxes.withBlocks(1, 1, 1, 1, 1);
        two.addLink(0, 1);
        two.addLink(2, 3);
        two.addTrain(4, 0);
        two.addTrain(0, 1);
        two.addTrain(2, 3);
        two.pass(1);
        CHECKS.due("0", Boxes.queue(two), "several routes are set in one minute");
        CHECKS.due(2, two.pass(1), "two arrivals in one minute");
        CHECKS.due(2, two.arrived(), "arrived()");
    }

    private static void places() {
        InterlockingBox box = Boxes.row(1, 1, 1);
        CHECKS.promise(22);
        CHECKS.due(0, box.trains(), "trains()");
        box.addTrain(0, 2);
        box.addTrain(2, 0);
        CHECKS.due(2, box.trains(), "trains()");
        CHECKS.promise(23);
        CHECKS.due(true, box.isPresent(1), "isPresent(1)");
        CHECKS.due(false, box.isPresent(2), "isPresent(2)");
        CHECKS.due(false, box.isPresent(-1), "isPresent(-1)");
        CHECKS.promise(24);
        CHECKS.due(2, box.blockOf(1), "blockOf(1)");
        CHECKS.throwsOnly(Checks.ELEMENT, () -> box.blockOf(2), "blockOf(2)");
        CHECKS.promise(25);
        CHECKS.due(2, box.destination(0), "destination(0)");
        CHECKS.throwsOnly(Checks.ELEMENT, () -> box.destination(-1), "destination(-1)");
        CHECKS.promise(26);
        CHECKS.due(false, box.hasRoute(0), "hasRoute(0)");
        CHECKS.throwsOnly(Checks.ELEMENT, () -> box.hasRoute(2), "hasRoute(2)");
        InterlockingBox free = Boxes.row(1, 1, 1);
        free.addTrain(0, 2);
        free.setRoute(0);
        CHECKS.due(true, free.hasRoute(0), "hasRoute(0) when set");
        free.pass(1);
        CHECKS.promise(24);
        CHECKS.due(1, free.blockOf(0), "blockOf(0) on the way");
        free.pass(1);
        CHECKS.due(false, free.isPresent(0), "isPresent(0) after the arrival");
        CHECKS.due(0, free.trains(), "trains() after the arrival");
        CHECKS.throwsOnly(Checks.ELEMENT, () -> free.blockOf(0), "blockOf(0) after the arrival");
        CHECKS.throwsOnly(Checks.ELEMENT, () -> free.destination(0), "destination(0) after the arrival");
    }

    private static void isClear() {
        CHECKS.promise(27);
        InterlockingBox box = Boxes.row(1, 1, 1, 1);
        box.addTrain(0, 2);
        CHECKS.due(true, box.isClear(0), "isClear(0)");
        box.shut(0);
        CHECKS.due(true, box.isClear(0), "isClear(0) from a shut block");
        box.shut(2);
        CHECKS.due(false, box.isClear(0), "isClear(0) over a shut block");
        box.open(2);
        box.addTrain(2, 3);
        CHECKS.due(false, box.isClear(0), "isClear(0) over an occupied block");
        CHECKS.due(true, box.isClear(1), "isClear(1)");
        box.setRoute(1);
        CHECKS.due(false, box.isClear(1), "isClear(1) when set");
        box.addTrain(1, 3);
        CHECKS.due(false, box.isClear(2), "isClear(2) over a reserved block");
        InterlockingBox none = Boxes.withBlocks(1, 1);
        none.addTrain(0, 1);
        CHECKS.due(false, none.isClear(0), "isClear(0) without a route");
        CHECKS.throwsOnly(Checks.ELEMENT, () -> none.isClear(1), "isClear(1)");
    }

    private static void minutes() {
        InterlockingBox box = Boxes.row(9, 4, 3, 2);
        box.pass(7);
        box.addTrain(0, 3);
        CHECKS.promise(28);
        CHECKS.throwsOnly(Checks.ELEMENT, () -> box.minutesUntilNext(0), "minutesUntilNext without a set route");
        CHECKS.throwsOnly(Checks.ELEMENT, () -> box.minutesUntilNext(1), "minutesUntilNext(1)");
        CHECKS.promise(29);
        CHECKS.throwsOnly(Checks.ELEMENT, () -> box.minutesUntilArrival(0), "minutesUntilArrival(0)");
        CHECKS.throwsOnly(Checks.ELEMENT, () -> box.minutesUntilArrival(1), "minutesUntilArrival(1)");
        CHECKS.promise(30);
        CHECKS.throwsOnly(Checks.ELEMENT, () -> box.minutesUntilArrivalByPassing(0), "minutesUntilArrivalByPassing(0)");
        CHECKS.throwsOnly(Checks.ELEMENT, () -> box.minutesUntilArrivalByPassing(1), "minutesUntilArrivalByPassing(1)");
        box.setRoute(0);
        int[] next = {4, 3, 2, 1, 3, 2, 1, 2, 1};
        for (int i = 0; i < next.length; i++) {
            CHECKS.promise(28);
            CHECKS.due(next[i], box.minutesUntilNext(0), "minutesUntilNext(0)");
            CHECKS.promise(29);
            CHECKS.due(9 - i, box.minutesUntilArrival(0), "minutesUntilArrival(0)");
            CHECKS.promise(30);
            String before = Picture.of(box);
            CHECKS.due(9 - i, box.minutesUntilArrivalByPassing(0), "minutesUntilArrivalByPassing(0)");
            CHECKS.due(before, Picture.of(box), "the box after passing on a copy");
            box.pass(1);
        }
        CHECKS.due(1, box.arrived(), "arrived()");
        InterlockingBox longest = Boxes.row(9, 9, 9, 9, 9, 9, 9, 9, 9, 9, 9, 9);
        longest.addTrain(0, 11);
        longest.setRoute(0);
        CHECKS.due(99, longest.minutesUntilArrivalByPassing(0), "the longest way by passing");
        CHECKS.due(99, longest.minutesUntilArrival(0), "the longest way");
    }

    private static void delay() {
        CHECKS.promise(31);
        InterlockingBox box = Boxes.row(1, 5, 1);
        box.addTrain(2, 0);
        box.addTrain(0, 1);
        box.shut(1);
        box.pass(3);
        CHECKS.due(3, box.delay(0), "delay(0) for want of a route");
        CHECKS.due(3, box.delay(1), "delay(1) for a shut block");
        box.open(1);
        box.pass(3);
        CHECKS.due(6, box.delay(0), "delay(0)");
        CHECKS.due(3, box.delay(1), "delay(1) with a set route");
        box.releaseRoute(1);
        box.shut(1);
        box.pass(2);
        CHECKS.due(5, box.delay(1), "delay(1) goes on");
        CHECKS.throwsOnly(Checks.ELEMENT, () -> box.delay(2), "delay(2)");
        CHECKS.throwsOnly(Checks.ELEMENT, () -> box.delay(-1), "delay(-1)");
    }

    private static void queued() {
        CHECKS.promise(32);
        InterlockingBox box = Boxes.row(1, 1, 1);
        CHECKS.throwsOnly(Checks.ELEMENT, () -> box.queued(0), "queued(0)");
        box.addTrain(2, 0);
        box.addTrain(0, 1);
        CHECKS.due(0, box.queued(0), "queued(0)");
        CHECKS.due(1, box.queued(1), "queued(1)");
        CHECKS.throwsOnly(Checks.ELEMENT, () -> box.queued(2), "queued(2)");
        CHECKS.throwsOnly(Checks.ELEMENT, () -> box.queued(-1), "queued(-1)");
        CHECKS.throwsOnly(Checks.ELEMENT, () -> box.queued(100), "queued(100)");
        box.setRoute(1);
        CHECKS.throwsOnly(Checks.ELEMENT, () -> box.queued(1), "queued(1)");
    }

    /** A shorter way that is built later does not change a set route, but the route that there is. */
    private static void routeStaysAsSet() {
        CHECKS.promise(11);
        InterlockingBox box = Boxes.withBlocks(1, 9, 1, 1, 1);
        box.addPoint(0, 1, 2);
        box.addLink(1, 3);
        box.addTrain(0, 3);
        CHECKS.due(10, box.setRoute(0), "setRoute(0)");
        box.addLink(2, 3);
        CHECKS.due(2, box.routeLength(0, 3), "routeLength(0, 3)");
        CHECKS.due("0@0>1>3", Boxes.train(box, 0), "writeTrain(0)");
        CHECKS.due(10, box.minutesUntilArrival(0), "minutesUntilArrival(0)");
        CHECKS.due(0, box.pass(9), "pass(9)");
        CHECKS.due(1, box.blockOf(0), "blockOf(0)");
        box.addPoint(3, 0, 4);
        CHECKS.due(true, box.isConsistent(), "isConsistent()");
        CHECKS.due(1, box.pass(1), "pass(1)");
    }
}
