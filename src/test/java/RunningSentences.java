/** What "Terms" says of setting routes, running, queue, waiting and conflicts, each sentence at its boundaries. */
final class RunningSentences {
    private RunningSentences() {
    }

    static void addTo(Suite suite) {
        addSetting(suite);
        addRunning(suite);
        addQueue(suite);
        addWaiting(suite);
    }

    private static void addSetting(Suite suite) {
        suite.term("The route from the block of a train to its destination can be set if the train has no set route, "
                + "there is a route, and no block of it except the first one is shut, occupied, or reserved.",
                RunningSentences::canBeSet);
        suite.term("When a route is set, all its blocks except the first one are reserved for the train, and each point "
                + "whose stem is a block of the route except the last one is moved to the side of the route and locked "
                + "by the train.", RunningSentences::reservesAndLocks);
    }

    /** Train 0 is to go from block 0 over 1 and 2 to 3; block 4 leads to 2 as well, and block 5 stands alone. */
    private static InterlockingBox merging() {
        InterlockingBox box = Boxes.ones(6);
        box.addLink(0, 1);
        box.addLink(1, 2);
        box.addLink(2, 3);
        box.addLink(4, 2);
        box.addTrain(0, 3);
        return box;
    }

    /** A route can be set if what setRoute has to answer is its length. */
    private static void set(Checks checks, Object want, InterlockingBox box, int train, String what) {
        checks.due(want instanceof Integer, box.isClear(train), "isClear " + what);
        checks.due(want, Checks.outcome(() -> box.setRoute(train)), "setRoute " + what);
    }

    private static void canBeSet(Checks checks) {
        InterlockingBox free = merging();
        set(checks, 3, free, 0, "with free blocks");
        set(checks, Checks.STATE, free, 0, "when it is set");
        InterlockingBox none = merging();
        none.addTrain(5, 3);
        set(checks, Checks.REFUSED, none, 1, "without a route");
        for (int block = 0; block < 6; block++) {
            Object want = block < 1 || block > 3 ? 3 : Checks.REFUSED;
            InterlockingBox shut = merging();
            shut.shut(block);
            set(checks, want, shut, 0, "with block " + block + " shut");
            InterlockingBox occupied = merging();
            if (block > 0) {
                occupied.addTrain(block, 0);
            }
            set(checks, want, occupied, 0, "with block " + block + " occupied");
        }
        InterlockingBox reserved = merging();
        reserved.addTrain(4, 2);
        reserved.setRoute(1);
        set(checks, Checks.REFUSED, reserved, 0, "with block 2 reserved");
        InterlockingBox last = merging();
        last.addTrain(2, 3);
        set(checks, 1, last, 1, "from the last block but one");
        set(checks, Checks.REFUSED, last, 0, "with block 2 occupied and block 3 reserved");
    }

    private static void reservesAndLocks(Checks checks) {
        InterlockingBox box = Boxes.ones(8);
        box.addPoint(5, 6, 1);
        box.addPoint(1, 2, 6);
        box.addPoint(2, 6, 3);
        box.addPoint(3, 6, 4);
        box.addPoint(4, 6, 7);
        box.throwPoint(1);
        box.throwPoint(2);
        box.throwPoint(3);
        box.addTrain(5, 3);
        box.setRoute(0);
        checks.due("fr0r0r0fo0ff", Boxes.blocks(box), "the blocks");
        Object[] left = {false, true, false, false, true};
        Object[] lockers = {0, 0, 0, Checks.ELEMENT, Checks.ELEMENT};
        for (int i = 0; i < 5; i++) {
            int point = i;
            checks.due(left[i], box.liesLeft(i), "liesLeft(" + i + ")");
            checks.due(lockers[i], Checks.outcome(() -> box.lockedBy(point)), "lockedBy(" + i + ")");
        }
        for (int block = 1; block <= 3; block++) {
            checks.due(0, box.trainAt(block), "trainAt(" + block + ")");
        }
        InterlockingBox queue = Boxes.ones(3);
        queue.addPoint(0, 1, 2);
        queue.addTrain(0, 2);
        queue.pass(1);
        checks.due(false, queue.liesLeft(0), "liesLeft(0) when a minute has set the route");
        checks.due(0, queue.lockedBy(0), "lockedBy(0) when a minute has set the route");
        checks.due("o0fr0", Boxes.blocks(queue), "the blocks when a minute has set the route");
        InterlockingBox two = Boxes.row(1, 1, 1, 1, 1);
        two.addTrain(3, 4);
        two.addTrain(0, 2);
        two.setRoute(0);
        two.setRoute(1);
        checks.due("o1r1r1o0r0", Boxes.blocks(two), "the blocks of two routes");
    }

    private static void addRunning(Suite suite) {
        suite.term("A train with a set route enters the next block of it after as many minutes as the length of that "
                + "block, counted from the minute in which its route was set or in which it entered the block before.",
                RunningSentences::entersInTime);
        suite.term("When a train enters a block, it leaves the block before, the new block is occupied and not reserved "
                + "any more, and the point whose stem is the block before is not locked any more.",
                RunningSentences::entersABlock);
        suite.term("A train that enters its destination arrives and is not present any more, and the block is free again, "
                + "also for the queue of this minute.", RunningSentences::arrives);
    }

    private static void entersInTime(Checks checks) {
        for (int length = 1; length <= 9; length++) {
            InterlockingBox called = Boxes.row(9, length, 10 - length, 9);
            called.pass(length);
            called.addTrain(0, 3);
            called.setRoute(0);
            if (length > 1) {
                called.pass(length - 1);
            }
            checks.due(0, called.blockOf(0), "blockOf(0) in the minute before it enters");
            called.pass(1);
            checks.due(1, called.blockOf(0), "blockOf(0) in the minute in which it enters");
            if (length < 9) {
                called.pass(9 - length);
            }
            checks.due(1, called.blockOf(0), "blockOf(0) in the minute before it enters the next block");
            called.pass(1);
            checks.due(2, called.blockOf(0), "blockOf(0) in the minute in which it enters the next block");
            InterlockingBox queued = Boxes.row(9, length);
            queued.addTrain(0, 1);
            queued.pass(length);
            checks.due(1, queued.trains(), "trains() one minute before the route of a minute ends");
            queued.pass(1);
            checks.due(0, queued.trains(), "trains() when the route of a minute ends");
        }
        InterlockingBox again = Boxes.row(1, 3);
        again.addTrain(0, 1);
        again.setRoute(0);
        again.pass(2);
        again.releaseRoute(0);
        again.setRoute(0);
        again.pass(2);
        checks.due(1, again.trains(), "trains() after two minutes of a route that was set anew");
        again.pass(1);
        checks.due(0, again.trains(), "trains() after three minutes of a route that was set anew");
    }

    private static void entersABlock(Checks checks) {
        InterlockingBox box = Boxes.withBlocks(1, 2, 1, 1);
        box.addPoint(0, 1, 3);
        box.addPoint(1, 2, 3);
        box.addTrain(0, 2);
        box.setRoute(0);
        box.pass(1);
        checks.due("o0r0r0f", Boxes.blocks(box), "the blocks in the minute before");
        checks.due(0, box.lockedBy(0), "lockedBy(0) in the minute before");
        box.pass(1);
        checks.due("fo0r0f", Boxes.blocks(box), "the blocks in the minute");
        checks.throwsOnly(Checks.ELEMENT, () -> box.lockedBy(0), "lockedBy(0) in the minute");
        checks.due(0, box.lockedBy(1), "lockedBy(1) in the minute");
        checks.due(1, box.shut(1), "shut of the block that it entered");
        checks.throwsOnly(Checks.STATE, () -> box.shut(2), "shut of the block that is reserved");
        box.addTrain(0, 3);
        checks.due("o1sr0f", Boxes.blocks(box), "the blocks with another train behind");
    }

    private static void arrives(Checks checks) {
        InterlockingBox box = Boxes.row(1, 1, 1);
        box.addTrain(1, 2);
        box.addTrain(0, 2);
        box.setRoute(0);
        checks.due(1, box.pass(1), "pass(1) with the arrival");
        checks.due(false, box.isPresent(0), "isPresent(0)");
        checks.due("o1r1r1", Boxes.blocks(box), "the blocks, which the queue of the minute has reserved");
        checks.due(0, box.delay(1), "delay(1)");
        checks.due(2, box.minutesUntilArrival(1), "minutesUntilArrival(1)");
        InterlockingBox free = Boxes.row(1, 1, 1);
        free.addTrain(0, 1);
        free.setRoute(0);
        free.pass(1);
        checks.due("fff", Boxes.blocks(free), "the blocks after an arrival in the middle of a row");
        checks.throwsOnly(Checks.ELEMENT, () -> free.trainAt(1), "trainAt(1)");
        checks.due(1, free.addTrain(1, 2), "addTrain on the block of the arrival");
    }

    private static void addQueue(Suite suite) {
        suite.term("Trains without a set route are in the queue, in the order in which they came or lost their set "
                + "routes.", RunningSentences::orderOfTheQueue);
        suite.term("In every minute, the time, which is initially 0, increases by 1; then all trains with set routes "
                + "whose time has come enter their next blocks, in the order of their numbers; then the trains of the "
                + "queue are considered in their order, and the route of each train whose route can be set then is "
                + "set.", RunningSentences::everyMinute);
        suite.term("The delay of a train is the number of minutes in which its route could not be set, also for want of a "
                + "route; it goes on when a set route is released.", RunningSentences::delay);
    }

    private static void orderOfTheQueue(Checks checks) {
        InterlockingBox box = Boxes.ones(12);
        checks.due("", Boxes.queue(box), "the queue without trains");
        for (int i = 0; i < 5; i++) {
            box.addLink(i, i + 5);
            box.addTrain(i, i + 5);
        }
        checks.due("0 1 2 3 4", Boxes.queue(box), "the queue");
        box.setRoute(2);
        checks.due("0 1 3 4", Boxes.queue(box), "the queue without one from the middle");
        box.setRoute(0);
        checks.due("1 3 4", Boxes.queue(box), "the queue without the first one");
        box.setRoute(4);
        checks.due("1 3", Boxes.queue(box), "the queue without the last one");
        box.releaseRoute(4);
        box.releaseRoute(0);
        box.addTrain(10, 11);
        box.releaseRoute(2);
        checks.due("1 3 4 0 5 2", Boxes.queue(box), "the queue with those that lost their routes");
        box.undo();
        checks.due("1 3 4 0 5", Boxes.queue(box), "the queue after undo()");
        box.pass(1);
        checks.due("5", Boxes.queue(box), "the queue after a minute");
    }

    private static void everyMinute(Checks checks) {
        InterlockingBox box = Boxes.ones(7);
        box.addLink(0, 2);
        box.addLink(1, 2);
        box.addLink(2, 3);
        box.addLink(4, 5);
        checks.due(0, box.time(), "time()");
        box.addTrain(0, 3);
        box.addTrain(1, 3);
        box.addTrain(4, 5);
        box.addTrain(6, 0);
        box.setRoute(1);
        box.pass(1);
        checks.due(1, box.time(), "time()");
        checks.due("o0fo1r1o2r2o3", Boxes.blocks(box), "the blocks after one minute");
        checks.due("0 3", Boxes.queue(box), "the queue after one minute");
        box.pass(1);
        checks.due("o0fr0r0ffo3", Boxes.blocks(box), "the blocks after two minutes");
        checks.due(2, box.arrived(), "arrived() after two minutes");
        checks.due("3", Boxes.queue(box), "the queue after two minutes");
        InterlockingBox first = Boxes.ones(4);
        first.addLink(0, 2);
        first.addLink(1, 2);
        first.addTrain(1, 2);
        first.addTrain(0, 2);
        first.pass(1);
        checks.due("o1o0r0f", Boxes.blocks(first), "the blocks, of which the first train of the queue gets one");
        checks.due("1", Boxes.queue(first), "the queue");
    }

    private static void delay(Checks checks) {
        InterlockingBox box = Boxes.row(1, 9, 1);
        box.addTrain(2, 0);
        box.addTrain(0, 1);
        checks.due(0, box.delay(0), "delay(0) of a new train");
        box.shut(1);
        box.pass(1);
        checks.due(1, box.delay(0), "delay(0) for want of a route");
        checks.due(1, box.delay(1), "delay(1) before a shut block");
        box.open(1);
        box.pass(1);
        checks.due(1, box.delay(1), "delay(1) in the minute that sets its route");
        box.pass(3);
        checks.due(1, box.delay(1), "delay(1) with a set route");
        box.releaseRoute(1);
        checks.due(1, box.delay(1), "delay(1) when its route is released");
        box.shut(1);
        box.pass(1);
        checks.due(2, box.delay(1), "delay(1), which goes on");
        checks.due(6, box.delay(0), "delay(0)");
        box.undo();
        checks.due(1, box.delay(1), "delay(1) after undo()");
        InterlockingBox refused = Boxes.row(1, 1);
        refused.addTrain(0, 1);
        refused.shut(1);
        checks.throwsOnly(Checks.REFUSED, () -> refused.setRoute(0), "setRoute(0)");
        checks.due(0, refused.delay(0), "delay(0) after a refusal, which takes no minute");
    }

    private static void addWaiting(Suite suite) {
        suite.term("A train of the queue waits for another train if there is a route from its block to its destination, "
                + "and the other train occupies a block of it except the first one, or has reserved one.",
                RunningSentences::waits);
        suite.term("Trains are in a deadlock if they form a circle in which each one waits for the next one, none of them "
                + "has a set route, and the circle contains at least two trains.", RunningSentences::deadlock);
        suite.term("A train that only waits for trains of a deadlock does not belong to it.",
                RunningSentences::onlyWaitsForADeadlock);
        suite.term("Two trains conflict if there are routes for both from their blocks to their destinations, and these "
                + "routes without their first blocks have a common block, whether they are set or not.",
                RunningSentences::conflict);
    }

    private static void waits(Checks checks) {
        for (int block = 1; block < 6; block++) {
            InterlockingBox occupied = merging();
            occupied.addTrain(block, 0);
            checks.due(block <= 3, occupied.waitsFor(0, 1), "waitsFor a train in block " + block);
        }
        InterlockingBox reserved = merging();
        reserved.addTrain(4, 2);
        checks.due(false, reserved.waitsFor(0, 1), "waitsFor a train beside the way");
        reserved.setRoute(1);
        checks.due(true, reserved.waitsFor(0, 1), "waitsFor a train that has reserved block 2");
        reserved.releaseRoute(1);
        checks.due(false, reserved.waitsFor(0, 1), "waitsFor a train whose route was released");
        reserved.setRoute(0);
        checks.due(true, reserved.waitsFor(1, 0), "waitsFor a train that has reserved the destination");
        checks.due(false, reserved.waitsFor(0, 1), "waitsFor of a train that is not in the queue");
        InterlockingBox none = merging();
        none.addTrain(5, 0);
        checks.due(false, none.waitsFor(1, 0), "waitsFor without a route, though the destination is occupied");
        none.addLink(5, 0);
        checks.due(true, none.waitsFor(1, 0), "waitsFor with a route");
    }

    private static void deadlocked(Checks checks, int want, InterlockingBox box, String what) {
        checks.due(want, box.deadlocked(), "deadlocked() " + what);
        checks.due(want, box.deadlockedByPairs(), "deadlockedByPairs() " + what);
    }

    private static void deadlock(Checks checks) {
        InterlockingBox two = Boxes.circle(1, 1);
        two.addTrain(0, 1);
        deadlocked(checks, 0, two, "of one train in a circle");
        two.addTrain(1, 0);
        deadlocked(checks, 2, two, "of two trains in a circle");
        InterlockingBox three = Boxes.circle(1, 1, 1, 1);
        three.addTrain(0, 1);
        three.addTrain(1, 2);
        three.addTrain(2, 0);
        deadlocked(checks, 3, three, "of three trains");
        InterlockingBox set = Boxes.circle(1, 1, 1, 1);
        set.addTrain(0, 1);
        set.addTrain(1, 2);
        set.addTrain(2, 3);
        deadlocked(checks, 0, set, "of three trains with a way out");
        set.setRoute(2);
        deadlocked(checks, 0, set, "with a set route");
        set.pass(1);
        deadlocked(checks, 0, set, "after an arrival");
    }

    private static void onlyWaitsForADeadlock(Checks checks) {
        InterlockingBox box = Boxes.circle(1, 1);
        box.addBlock(1);
        box.addBlock(1);
        box.addLink(2, 0);
        box.addLink(3, 2);
        box.addTrain(3, 2);
        box.addTrain(0, 1);
        box.addTrain(2, 1);
        box.addTrain(1, 0);
        checks.due(true, box.waitsFor(2, 1), "waitsFor a train of the deadlock");
        checks.due(true, box.waitsFor(0, 2), "waitsFor a train that waits for it");
        deadlocked(checks, 2, box, "with two trains that only wait");
    }

    private static void conflict(Checks checks) {
        for (int end = 1; end <= 3; end++) {
            InterlockingBox box = merging();
            box.addTrain(4, end == 1 ? 5 : end);
            checks.due(end > 1, box.conflict(0, 1), "conflict with a train to block " + end);
            checks.due(end > 1, box.conflict(1, 0), "conflict of a train to block " + end);
            box.setRoute(0);
            checks.due(end > 1, box.conflict(0, 1), "conflict of a set route");
        }
        InterlockingBox apart = Boxes.row(1, 1, 1);
        apart.addTrain(0, 1);
        apart.addTrain(1, 2);
        checks.due(false, apart.conflict(0, 1), "conflict in a first block");
        apart.setRoute(1);
        checks.due(false, apart.conflict(0, 1), "conflict in a first block with a set route");
        InterlockingBox both = Boxes.row(1, 1, 1);
        both.addTrain(0, 2);
        both.addTrain(1, 2);
        checks.due(true, both.conflict(0, 1), "conflict in the destination");
        both.setRoute(1);
        checks.due(true, both.conflict(0, 1), "conflict in the destination with a set route");
        InterlockingBox none = Boxes.ones(3);
        none.addTrain(0, 2);
        none.addTrain(1, 2);
        checks.due(false, none.conflict(0, 1), "conflict without routes");
        none.addLink(0, 2);
        checks.due(false, none.conflict(0, 1), "conflict with one route");
        none.addLink(1, 2);
        checks.due(true, none.conflict(0, 1), "conflict with two routes");
    }
}
