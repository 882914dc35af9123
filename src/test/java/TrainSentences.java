/** Promises 8 to 11: trains that come, their routes and the minutes, each sentence at its boundaries. */
final class TrainSentences {
    private TrainSentences() {
    }

    static void addTo(Suite suite) {
        addComing(suite);
        addSetting(suite);
        addReleasing(suite);
        addPassing(suite);
    }

    private static void addComing(Suite suite) {
        suite.promise(8, "Lets a train come, which has no set route and is the last one of the queue.",
                TrainSentences::comesLast);
        suite.promise(8, "Returns the number of the train.", TrainSentences::numberOfTheTrain);
        suite.promise(8, "Throws `IndexOutOfBoundsException` if one of the blocks does not exist",
                TrainSentences::trainOnNoBlock);
        suite.promise(8, "Throws `IllegalArgumentException` if both blocks are the same",
                TrainSentences::trainToItsOwnBlock);
        suite.promise(8, "Throws `IllegalStateException` if 8 trains are present, or the block is shut, occupied or "
                + "reserved", TrainSentences::addTrainRefused);
    }

    private static void comesLast(Checks checks) {
        InterlockingBox box = Boxes.row(1, 1, 1, 1, 1, 1, 1, 1, 1);
        StringBuilder queue = new StringBuilder();
        for (int i = 0; i < 8; i++) {
            box.addTrain(i, 8);
            queue.append(queue.length() == 0 ? "" : " ").append(i);
            checks.due(false, box.hasRoute(i), "hasRoute of train " + i);
            checks.due(queue.toString(), Boxes.queue(box), "the queue");
        }
        InterlockingBox released = Boxes.row(1, 1, 1, 1, 1);
        released.addTrain(0, 1);
        released.addTrain(2, 3);
        released.setRoute(0);
        released.releaseRoute(0);
        released.addTrain(4, 0);
        checks.due("1 0 2", Boxes.queue(released), "the queue with a train whose route was released");
    }

    private static void numberOfTheTrain(Checks checks) {
        InterlockingBox box = Boxes.ones(12);
        for (int i = 0; i < 8; i++) {
            checks.due(i, box.addTrain(11 - i, 0), "addTrain");
        }
        InterlockingBox arrived = manyTrains(8);
        arrived.pass(2);
        checks.due(8, arrived.addTrain(0, 11), "addTrain after an arrival");
        arrived.undo();
        checks.due(8, arrived.addTrain(9, 11), "addTrain after undo()");
    }

    private static void trainOnNoBlock(Checks checks) {
        Checks.Recipe two = () -> Boxes.laden(Boxes.ones(2));
        int[] outside = Checks.outside(2);
        checks.refusesEach(two, Checks.INDEX, outside, (box, n) -> box.addTrain(n, 1), "addTrain on a block");
        checks.refusesEach(two, Checks.INDEX, outside, (box, n) -> box.addTrain(0, n), "addTrain for a destination");
        checks.due(0, two.make().addTrain(0, 1), "addTrain(0, 1) to the last block");
        checks.due(0, two.make().addTrain(1, 0), "addTrain(1, 0) on the last block");
        checks.refuses(() -> Boxes.laden(Boxes.ones(12)), Checks.INDEX, box -> box.addTrain(12, 0), "addTrain(12, 0)");
        checks.refuses(() -> Boxes.laden(Boxes.ones(12)), Checks.INDEX, box -> box.addTrain(0, 12), "addTrain(0, 12)");
        checks.due(0, Boxes.ones(12).addTrain(11, 0), "addTrain(11, 0)");
        checks.refuses(() -> Boxes.laden(Boxes.ones(0)), Checks.INDEX, box -> box.addTrain(0, 1), "addTrain(0, 1)");
    }

    private static void trainToItsOwnBlock(Checks checks) {
        Checks.Recipe three = () -> Boxes.laden(Boxes.ones(3));
        int[] blocks = {0, 1, 2};
        checks.refusesEach(three, Checks.ARGUMENT, blocks, (box, n) -> box.addTrain(n, n), "addTrain to itself");
        checks.due(0, three.make().addTrain(1, 0), "addTrain(1, 0)");
        checks.due(0, three.make().addTrain(1, 2), "addTrain(1, 2)");
    }

    /** Trains 0 to trains - 1 stand in blocks of their numbers; only train 0 has a way, over the link from 0 to 8. */
    private static InterlockingBox manyTrains(int trains) {
        InterlockingBox box = Boxes.ones(12);
        box.addLink(0, 8);
        box.addTrain(0, 8);
        for (int i = 1; i < trains; i++) {
            box.addTrain(i, 11);
        }
        return Boxes.laden(box);
    }

    private static void addTrainRefused(Checks checks) {
        checks.due(7, manyTrains(7).addTrain(10, 11), "addTrain as the eighth");
        checks.refuses(() -> manyTrains(8), Checks.STATE, box -> box.addTrain(10, 11), "addTrain as the ninth");
        InterlockingBox full = manyTrains(8);
        full.pass(1);
        checks.throwsOnly(Checks.STATE, () -> full.addTrain(10, 11), "addTrain in the minute before an arrival");
        full.pass(1);
        checks.due(8, full.addTrain(10, 11), "addTrain after an arrival");
        checks.throwsOnly(Checks.STATE, () -> full.addTrain(9, 11), "addTrain with eight trains again");
        InterlockingBox undone = manyTrains(8);
        undone.undo();
        checks.due(7, undone.addTrain(10, 11), "addTrain after undo()");
        Checks.Recipe row = () -> {
            InterlockingBox box = Boxes.row(1, 1, 1, 1, 1);
            box.addTrain(0, 2);
            box.setRoute(0);
            box.shut(3);
            return Boxes.laden(box);
        };
        checks.refuses(row, Checks.STATE, box -> box.addTrain(0, 4), "addTrain on an occupied block");
        checks.refuses(row, Checks.STATE, box -> box.addTrain(1, 4), "addTrain on a reserved block");
        checks.refuses(row, Checks.STATE, box -> box.addTrain(2, 4), "addTrain on a reserved destination");
        checks.refuses(row, Checks.STATE, box -> box.addTrain(3, 4), "addTrain on a shut block");
        for (int destination = 0; destination < 4; destination++) {
            checks.due(1, row.make().addTrain(4, destination), "addTrain on a free block to any other one");
        }
        InterlockingBox later = row.make();
        later.open(3);
        checks.due(1, later.addTrain(3, 0), "addTrain on a block that was opened");
        later.releaseRoute(0);
        checks.due(2, later.addTrain(2, 0), "addTrain on a block that is reserved no more");
    }

    private static void addSetting(Suite suite) {
        suite.promise(9, "Sets the route of a train at once, whatever its place in the queue is.",
                TrainSentences::setsAtOnce);
        suite.promise(9, "Returns the length of the route.", TrainSentences::lengthOfTheSetRoute);
        suite.promise(9, "Throws `NoSuchElementException` if there is no such train",
                checks -> noSuchTrain(checks, false, InterlockingBox::setRoute, "setRoute"));
        suite.promise(9, "Throws `IllegalStateException` if it has a set route", TrainSentences::setTwice);
        suite.promise(9, "Throws `UnsupportedOperationException` if the route cannot be set; the reason of the refusal "
                + "is recorded", TrainSentences::setRouteRefused);
    }

    /** Train 0 has arrived, train 1 stands in block 0 on its way to block 2, and train 2 has not come. */
    private static InterlockingBox secondTrain(boolean isSet) {
        InterlockingBox box = Boxes.row(1, 1, 1);
        box.addTrain(0, 1);
        box.setRoute(0);
        box.pass(1);
        box.addTrain(0, 2);
        if (isSet) {
            box.setRoute(1);
        }
        return Boxes.laden(box);
    }

    /** The call is refused for trains that arrived or have not come, and answered for the one that is present. */
    static void noSuchTrain(Checks checks, boolean isSet, Checks.NumberedUse use, String what) {
        int[] others = {0, 2, -1, 33, -31, 65, 257, 65537, (1 << 30) + 1, Integer.MAX_VALUE, Integer.MIN_VALUE + 1};
        checks.refusesEach(() -> secondTrain(isSet), Checks.ELEMENT, others, use, what);
        checks.answers(() -> use.of(secondTrain(isSet), 1), what + " with 1");
        Checks.Recipe none = () -> Boxes.laden(Boxes.row(1, 1, 1));
        checks.refusesEach(none, Checks.ELEMENT, new int[] {0, -1}, use, what + " without trains");
        Checks.Recipe undone = () -> {
            InterlockingBox box = secondTrain(false);
            box.undo();
            return box;
        };
        checks.refusesEach(undone, Checks.ELEMENT, new int[] {0, 1}, use, what + " after undo()");
    }

    private static void setsAtOnce(Checks checks) {
        for (int train = 0; train < 6; train++) {
            InterlockingBox box = Boxes.ones(12);
            for (int i = 0; i < 6; i++) {
                box.addLink(i, i + 6);
                box.addTrain(i, i + 6);
            }
            checks.due(1, box.setRoute(train), "setRoute of train " + train);
            checks.due(true, box.hasRoute(train), "hasRoute of train " + train);
            checks.due("0 1 2 3 4 5 ".replace(train + " ", "").trim(), Boxes.queue(box), "the queue");
            checks.due(0, box.time(), "time()");
        }
    }

    private static void lengthOfTheSetRoute(Checks checks) {
        for (int length = 1; length <= 9; length += 4) {
            InterlockingBox shortest = Boxes.row(9, length, 9);
            shortest.addTrain(0, 1);
            checks.due(length, shortest.setRoute(0), "setRoute over one block");
        }
        InterlockingBox longest = Boxes.row(9, 9, 9, 9, 9, 9, 9, 9, 9, 9, 9, 9);
        longest.addTrain(0, 11);
        checks.due(99, longest.setRoute(0), "setRoute over all blocks");
        InterlockingBox shorter = Boxes.circle(9, 9, 9, 9, 9, 9, 9, 9, 9, 9, 9, 8);
        shorter.addTrain(1, 0);
        checks.due(98, shorter.setRoute(0), "setRoute around a circle");
    }

    private static void setTwice(Checks checks) {
        Checks.Recipe set = () -> secondTrain(true);
        checks.refuses(set, Checks.STATE, box -> box.setRoute(1), "setRoute of a set route");
        Checks.Recipe onTheWay = () -> {
            InterlockingBox box = secondTrain(true);
            box.pass(1);
            return box;
        };
        checks.refuses(onTheWay, Checks.STATE, box -> box.setRoute(1), "setRoute of a set route on the way");
        InterlockingBox released = onTheWay.make();
        released.releaseRoute(1);
        checks.due(1, released.setRoute(1), "setRoute of a released route");
        InterlockingBox byQueue = secondTrain(false);
        byQueue.pass(1);
        checks.throwsOnly(Checks.STATE, () -> byQueue.setRoute(1), "setRoute of a route that a minute has set");
    }

    private static InterlockingBox rowWithTrain(int... lengths) {
        InterlockingBox box = Boxes.row(lengths);
        box.addTrain(0, 2);
        return Boxes.laden(box);
    }

    private static void setRouteRefused(Checks checks) {
        Checks.Recipe shut = () -> {
            InterlockingBox box = rowWithTrain(1, 1, 1);
            box.shut(2);
            return box;
        };
        refusedFor(checks, shut, 0, 's', 2);
        Checks.Recipe occupied = () -> {
            InterlockingBox box = rowWithTrain(1, 1, 1);
            box.addTrain(1, 2);
            return box;
        };
        refusedFor(checks, occupied, 0, 'o', 1);
        InterlockingBox undone = occupied.make();
        undone.undo();
        checks.due(2, undone.setRoute(0), "setRoute over a block that is occupied no more");
        Checks.Recipe reserved = () -> {
            InterlockingBox box = Boxes.row(1, 1, 1);
            box.addBlock(1);
            box.addLink(3, 2);
            box.addTrain(0, 2);
            box.addTrain(3, 2);
            box.setRoute(1);
            return Boxes.laden(box);
        };
        refusedFor(checks, reserved, 0, 'r', 2);
        Checks.Recipe none = () -> {
            InterlockingBox box = Boxes.row(1, 1);
            box.addTrain(1, 0);
            return Boxes.laden(box);
        };
        refusedFor(checks, none, 0, 'n', Checks.ELEMENT);
        InterlockingBox linked = none.make();
        linked.addLink(1, 0);
        checks.due(1, linked.setRoute(0), "setRoute with a way");
        InterlockingBox ownBlock = rowWithTrain(1, 1, 1);
        ownBlock.shut(0);
        checks.due(2, ownBlock.setRoute(0), "setRoute from a shut block");
        InterlockingBox opened = shut.make();
        opened.open(2);
        checks.due(2, opened.setRoute(0), "setRoute over a block that was opened");
    }

    private static void refusedFor(Checks checks, Checks.Recipe recipe, int train, Object reason, Object block) {
        Checks.Use use = box -> box.setRoute(train);
        checks.refuses(recipe, Checks.REFUSED, use, "setRoute for " + reason, Aspect.REFUSAL);
        InterlockingBox box = recipe.make();
        checks.throwsOnly(Checks.REFUSED, () -> use.of(box), "setRoute for " + reason);
        checks.due(reason, Checks.outcome(box::refusalReason), "refusalReason()");
        checks.due(block, Checks.outcome(box::refusalBlock), "refusalBlock()");
    }

    private static void addReleasing(Suite suite) {
        suite.promise(10, "Releases the set route of a train, which becomes the last one of the queue; its blocks are "
                + "not reserved and its points are not locked any more.", TrainSentences::releases);
        suite.promise(10, "Returns the number of trains in the queue afterwards.", TrainSentences::numberInTheQueue);
        suite.promise(10, "Throws `NoSuchElementException` if there is no such train",
                checks -> noSuchTrain(checks, true, InterlockingBox::releaseRoute, "releaseRoute"));
        suite.promise(10, "Throws `IllegalStateException` if it has no set route", TrainSentences::releaseRefused);
    }

    /** Train 0 has a set route over two points to block 2; train 1 has a set route beside it; train 2 has none. */
    private static InterlockingBox twoRoutes() {
        InterlockingBox box = Boxes.withBlocks(1, 2, 1, 1, 3, 1);
        box.addPoint(0, 3, 1);
        box.addPoint(1, 2, 3);
        box.addPoint(5, 4, 3);
        box.addTrain(0, 2);
        box.addTrain(5, 4);
        box.addTrain(3, 0);
        box.setRoute(0);
        box.setRoute(1);
        return Boxes.laden(box);
    }

    private static void releases(Checks checks) {
        InterlockingBox box = twoRoutes();
        checks.due("o0r0r0o2r1o1", Boxes.blocks(box), "the blocks before");
        box.releaseRoute(0);
        checks.due("o0ffo2r1o1", Boxes.blocks(box), "the blocks after releaseRoute(0)");
        checks.due("2 0", Boxes.queue(box), "the queue");
        checks.throwsOnly(Checks.ELEMENT, () -> box.lockedBy(0), "lockedBy(0)");
        checks.throwsOnly(Checks.ELEMENT, () -> box.lockedBy(1), "lockedBy(1)");
        checks.due(1, box.lockedBy(2), "lockedBy(2) of another train");
        checks.due(false, box.liesLeft(0), "liesLeft(0), which stays where it was moved");
        box.releaseRoute(1);
        checks.due("o0ffo2fo1", Boxes.blocks(box), "the blocks after releaseRoute(1)");
        checks.due("2 0 1", Boxes.queue(box), "the queue");
        InterlockingBox later = twoRoutes();
        later.pass(2);
        later.releaseRoute(0);
        checks.due("fo0fo2r1o1", Boxes.blocks(later), "the blocks after releaseRoute(0) on the way");
        checks.throwsOnly(Checks.ELEMENT, () -> later.lockedBy(1), "lockedBy(1) on the way");
        checks.due(1, later.pass(1), "pass(1), in which the other train arrives");
        checks.due(1, later.blockOf(0), "blockOf(0), which would have arrived");
    }

    private static void numberInTheQueue(Checks checks) {
        InterlockingBox alone = secondTrain(true);
        checks.due(1, alone.releaseRoute(1), "releaseRoute of the only train");
        InterlockingBox box = manyTrains(8);
        box.setRoute(0);
        checks.due(8, box.releaseRoute(0), "releaseRoute of the eighth train");
        checks.due("1 2 3 4 5 6 7 0", Boxes.queue(box), "the queue");
        checks.due(2, twoRoutes().releaseRoute(0), "releaseRoute beside a queue of one");
    }

    private static void releaseRefused(Checks checks) {
        checks.refuses(() -> secondTrain(false), Checks.STATE, box -> box.releaseRoute(1), "releaseRoute of no route");
        Checks.Recipe released = () -> {
            InterlockingBox box = twoRoutes();
            box.releaseRoute(0);
            return box;
        };
        checks.refuses(released, Checks.STATE, box -> box.releaseRoute(0), "releaseRoute again");
        checks.refuses(released, Checks.STATE, box -> box.releaseRoute(2), "releaseRoute of another train");
        checks.due(3, released.make().releaseRoute(1), "releaseRoute of a set route");
    }

    private static void addPassing(Suite suite) {
        suite.promise(11, "Lets minutes pass.", TrainSentences::minutesPass);
        suite.promise(11, "`minutes`: the number of minutes, 1 to 240", TrainSentences::oneToManyMinutes);
        suite.promise(11, "Returns the number of trains that arrive in these minutes.", TrainSentences::arrivals);
        suite.promise(11, "Throws `IllegalArgumentException` if the number is out of range",
                TrainSentences::minutesOutOfRange);
    }

    private static void minutesPass(Checks checks) {
        InterlockingBox box = Boxes.row(1, 3, 1);
        box.addTrain(0, 2);
        box.pass(1);
        checks.due(true, box.hasRoute(0), "hasRoute(0) after the first minute");
        box.pass(2);
        checks.due(0, box.blockOf(0), "blockOf(0) after the third minute");
        box.pass(1);
        checks.due(1, box.blockOf(0), "blockOf(0) after the fourth minute");
        InterlockingBox together = Boxes.row(1, 3, 1);
        together.addTrain(0, 2);
        together.pass(4);
        checks.due("fo0r0", Boxes.blocks(together), "the blocks after four minutes in one call");
    }

    private static void oneToManyMinutes(Checks checks) {
        int[] inside = {1, 2, 127, 128, 239, 240};
        for (int minutes : inside) {
            InterlockingBox box = Boxes.row(1, 1);
            checks.due(0, box.pass(minutes), "pass(" + minutes + ")");
            checks.due(minutes, box.time(), "time()");
        }
    }

    private static void arrivals(Checks checks) {
        InterlockingBox box = Boxes.row(1, 9);
        box.addTrain(0, 1);
        box.setRoute(0);
        checks.due(0, box.pass(8), "pass(8) until the minute before the arrival");
        checks.due(1, box.pass(1), "pass(1) with the arrival");
        checks.due(0, box.pass(1), "pass(1) after the arrival");
        InterlockingBox exact = Boxes.row(1, 9);
        exact.addTrain(0, 1);
        exact.setRoute(0);
        checks.due(1, exact.pass(9), "pass(9) up to the arrival");
        InterlockingBox six = Boxes.ones(12);
        for (int i = 0; i < 6; i++) {
            six.addLink(i, i + 6);
            six.addTrain(i, i + 6);
            six.setRoute(i);
        }
        checks.due(6, six.pass(1), "pass(1) with six arrivals");
        InterlockingBox eight = Boxes.row(1, 1, 1, 1, 1, 1, 1, 1, 1);
        for (int i = 0; i < 8; i++) {
            eight.addTrain(i, 8);
        }
        checks.due(8, eight.pass(240), "pass(240) with the arrivals of all eight trains");
        checks.due(8, eight.arrived(), "arrived()");
        InterlockingBox last = Boxes.withBlocks(1, 9);
        last.addTrain(0, 1);
        last.pass(230);
        last.addLink(0, 1);
        checks.due(0, last.pass(9), "pass(9), in which the route is set and the train runs");
        checks.due(1, last.pass(1), "pass(1) with the arrival nine minutes after the route was set");
    }

    private static void minutesOutOfRange(Checks checks) {
        int[] outside = {0, -1, -240, 241, 257, 496, 65537, 65776, Integer.MAX_VALUE, Integer.MIN_VALUE,
            Integer.MIN_VALUE + 1};
        Checks.Recipe empty = () -> Boxes.laden(Boxes.ones(0));
        checks.refusesEach(empty, Checks.ARGUMENT, outside, InterlockingBox::pass, "pass");
        checks.refusesEach(TrainSentences::twoRoutes, Checks.ARGUMENT, outside, InterlockingBox::pass, "pass");
    }
}
