/** Promises 2 to 7 and 12 to 17: blocks, points and links, each sentence at its boundaries. */
final class LineSentences {
    private LineSentences() {
    }

    static void addTo(Suite suite) {
        addBlocks(suite);
        addPointsAndLinks(suite);
        addShutting(suite);
        addThrowing(suite);
        addPropertiesOfBlocks(suite);
        addPropertiesOfPoints(suite);
    }

    private static void addBlocks(Suite suite) {
        suite.promise(2, "Adds a block.", LineSentences::addsABlock);
        suite.promise(2, "`length`: the length, 1 to 9", LineSentences::lengthOneToNine);
        suite.promise(2, "Returns the number of the block.", LineSentences::numberOfTheBlock);
        suite.promise(2, "Throws `IllegalArgumentException` if the length is out of range",
                LineSentences::lengthOutOfRange);
        suite.promise(2, "Throws `IllegalStateException` if there are 12 blocks", LineSentences::twelveBlocks);
    }

    private static void addsABlock(Checks checks) {
        InterlockingBox box = new InterlockingBox();
        box.addBlock(3);
        checks.due("f", Boxes.blocks(box), "the first block");
        InterlockingBox eleven = Boxes.ones(11);
        eleven.addBlock(9);
        checks.due("ffffffffffff", Boxes.blocks(eleven), "the blocks with the last one");
    }

    private static void lengthOneToNine(Checks checks) {
        for (int length = 1; length <= 9; length++) {
            InterlockingBox box = new InterlockingBox();
            checks.due(0, box.addBlock(length), "addBlock with length " + length);
            checks.due(length, box.blockLength(0), "blockLength(0)");
        }
    }

    private static void numberOfTheBlock(Checks checks) {
        InterlockingBox box = new InterlockingBox();
        for (int i = 0; i < 12; i++) {
            checks.due(i, box.addBlock(1), "addBlock(1)");
        }
        box.undo();
        checks.due(11, box.addBlock(2), "addBlock(2) after undo()");
    }

    private static void lengthOutOfRange(Checks checks) {
        int[] outside = {0, 10, -1, -9, 33, 257, 265, 65537, Integer.MAX_VALUE, Integer.MIN_VALUE, Integer.MIN_VALUE + 1};
        for (int blocks : new int[] {0, 1, 11, 12}) {
            Checks.Recipe some = () -> Boxes.laden(Boxes.ones(blocks));
            checks.refusesEach(some, Checks.ARGUMENT, outside, InterlockingBox::addBlock, "addBlock");
        }
    }

    private static void twelveBlocks(Checks checks) {
        InterlockingBox box = Boxes.ones(11);
        checks.due(11, box.addBlock(1), "addBlock(1) as the twelfth");
        Checks.Recipe full = () -> Boxes.laden(Boxes.ones(12));
        checks.refusesEach(full, Checks.STATE, new int[] {1, 5, 9}, InterlockingBox::addBlock, "addBlock");
        InterlockingBox undone = full.make();
        undone.undo();
        checks.due(11, undone.addBlock(9), "addBlock(9) after undo()");
    }

    private static void addPointsAndLinks(Suite suite) {
        suite.promise(3, "Adds a point.", LineSentences::addsAPoint);
        suite.promise(3, "Returns the number of the point.", LineSentences::numberOfThePoint);
        suite.promise(3, "Throws `IndexOutOfBoundsException` if one of the blocks does not exist",
                LineSentences::pointOfNoBlock);
        suite.promise(3, "Throws `IllegalArgumentException` if the blocks are not different",
                LineSentences::pointOfSameBlocks);
        suite.promise(3, "Throws `IllegalStateException` if there are 8 points, or the stem is the stem of a point or "
                + "has a link", LineSentences::pointRefused);
        suite.promise(4, "Adds a link.", LineSentences::addsALink);
        suite.promise(4, "Returns the number of links afterwards.", LineSentences::numberOfLinks);
        suite.promise(4, "Throws `IndexOutOfBoundsException` if one of the blocks does not exist",
                LineSentences::linkOfNoBlock);
        suite.promise(4, "Throws `IllegalArgumentException` if both blocks are the same", LineSentences::linkOfSameBlocks);
        suite.promise(4, "Throws `IllegalStateException` if the first block is the stem of a point or has a link",
                LineSentences::linkRefused);
    }

    private static void addsAPoint(Checks checks) {
        InterlockingBox box = Boxes.ones(3);
        box.addPoint(1, 2, 0);
        checks.due(1, box.paths(1, 2), "paths to the left branch");
        checks.due(1, box.paths(1, 0), "paths to the right branch");
        checks.due(0, box.paths(2, 1) + box.paths(0, 1) + box.paths(0, 2) + box.paths(2, 0), "the other paths");
        box.addTrain(1, 2);
        box.setRoute(0);
        checks.due(true, box.liesLeft(0), "liesLeft(0) for the left branch");
        box.undo();
        box.undo();
        box.addTrain(1, 0);
        box.setRoute(0);
        checks.due(false, box.liesLeft(0), "liesLeft(0) for the right branch");
    }

    private static void numberOfThePoint(Checks checks) {
        InterlockingBox box = Boxes.ones(12);
        box.addLink(11, 0);
        for (int i = 0; i < 8; i++) {
            checks.due(i, box.addPoint(7 - i, 8, 9), "addPoint");
        }
        box.undo();
        checks.due(7, box.addPoint(10, 8, 9), "addPoint after undo()");
    }

    private static void pointOfNoBlock(Checks checks) {
        Checks.Recipe three = () -> Boxes.laden(Boxes.ones(3));
        int[] outside = Checks.outside(3);
        checks.refusesEach(three, Checks.INDEX, outside, (box, n) -> box.addPoint(n, 1, 2), "addPoint of a stem");
        checks.refusesEach(three, Checks.INDEX, outside, (box, n) -> box.addPoint(0, n, 2), "addPoint of a left branch");
        checks.refusesEach(three, Checks.INDEX, outside, (box, n) -> box.addPoint(0, 1, n), "addPoint of a right branch");
        checks.due(0, three.make().addPoint(2, 1, 0), "addPoint(2, 1, 0) of the last block");
        checks.due(0, three.make().addPoint(0, 1, 2), "addPoint(0, 1, 2) with the last block");
        Checks.Recipe twelve = () -> Boxes.laden(Boxes.ones(12));
        checks.refuses(twelve, Checks.INDEX, box -> box.addPoint(12, 0, 1), "addPoint(12, 0, 1)");
        checks.due(0, twelve.make().addPoint(11, 0, 10), "addPoint(11, 0, 10)");
        checks.refuses(() -> Boxes.laden(Boxes.ones(0)), Checks.INDEX, box -> box.addPoint(0, 0, 0), "addPoint(0, 0, 0)");
    }

    private static void pointOfSameBlocks(Checks checks) {
        Checks.Recipe three = () -> Boxes.laden(Boxes.ones(3));
        checks.refuses(three, Checks.ARGUMENT, box -> box.addPoint(0, 0, 1), "addPoint(0, 0, 1)");
        checks.refuses(three, Checks.ARGUMENT, box -> box.addPoint(0, 1, 0), "addPoint(0, 1, 0)");
        checks.refuses(three, Checks.ARGUMENT, box -> box.addPoint(0, 1, 1), "addPoint(0, 1, 1)");
        checks.refuses(three, Checks.ARGUMENT, box -> box.addPoint(2, 2, 2), "addPoint(2, 2, 2)");
        int[][] orders = {{0, 1, 2}, {0, 2, 1}, {1, 0, 2}, {1, 2, 0}, {2, 0, 1}, {2, 1, 0}};
        for (int[] order : orders) {
            checks.due(0, three.make().addPoint(order[0], order[1], order[2]), "addPoint of different blocks");
        }
    }

    private static InterlockingBox points(int points) {
        InterlockingBox box = Boxes.ones(12);
        for (int i = 0; i < points; i++) {
            box.addPoint(i, 10, 11);
        }
        return Boxes.laden(box);
    }

    private static void pointRefused(Checks checks) {
        checks.due(7, points(7).addPoint(7, 10, 11), "addPoint as the eighth");
        checks.refuses(() -> points(8), Checks.STATE, box -> box.addPoint(8, 10, 11), "addPoint as the ninth");
        InterlockingBox undone = points(8);
        undone.undo();
        checks.due(7, undone.addPoint(8, 10, 11), "addPoint after undo()");
        Checks.Recipe mixed = () -> {
            InterlockingBox box = Boxes.ones(6);
            box.addPoint(0, 1, 2);
            box.addLink(3, 1);
            return Boxes.laden(box);
        };
        checks.refuses(mixed, Checks.STATE, box -> box.addPoint(0, 1, 2), "addPoint of the same point");
        checks.refuses(mixed, Checks.STATE, box -> box.addPoint(0, 4, 5), "addPoint of the same stem");
        checks.refuses(mixed, Checks.STATE, box -> box.addPoint(3, 4, 5), "addPoint of a block with a link");
        checks.due(1, mixed.make().addPoint(1, 0, 3), "addPoint of a branch to which a link leads");
        checks.due(1, mixed.make().addPoint(4, 1, 2), "addPoint with the branches of another point");
        checks.due(1, mixed.make().addPoint(4, 0, 3), "addPoint with a stem and a linked block as branches");
    }

    private static void addsALink(Checks checks) {
        InterlockingBox box = Boxes.ones(3);
        box.addLink(2, 0);
        checks.due(1, box.paths(2, 0), "paths along the link");
        checks.due(0, box.paths(0, 2) + box.paths(2, 1) + box.paths(1, 0), "the other paths");
    }

    private static void numberOfLinks(Checks checks) {
        InterlockingBox box = Boxes.ones(12);
        for (int i = 0; i < 12; i++) {
            checks.due(i + 1, box.addLink(i, (i + 1) % 12), "addLink");
        }
        box.undo();
        checks.due(12, box.addLink(11, 5), "addLink after undo()");
        InterlockingBox mixed = Boxes.ones(4);
        mixed.addPoint(0, 1, 2);
        checks.due(1, mixed.addLink(1, 0), "addLink beside a point");
    }

    private static void linkOfNoBlock(Checks checks) {
        Checks.Recipe two = () -> Boxes.laden(Boxes.ones(2));
        int[] outside = Checks.outside(2);
        checks.refusesEach(two, Checks.INDEX, outside, (box, n) -> box.addLink(n, 1), "addLink from a block");
        checks.refusesEach(two, Checks.INDEX, outside, (box, n) -> box.addLink(0, n), "addLink to a block");
        checks.due(1, two.make().addLink(0, 1), "addLink(0, 1) to the last block");
        checks.due(1, two.make().addLink(1, 0), "addLink(1, 0) from the last block");
        checks.refuses(() -> Boxes.laden(Boxes.ones(12)), Checks.INDEX, box -> box.addLink(12, 0), "addLink(12, 0)");
        checks.due(1, Boxes.ones(12).addLink(11, 0), "addLink(11, 0)");
        checks.refuses(() -> Boxes.laden(Boxes.ones(0)), Checks.INDEX, box -> box.addLink(0, 1), "addLink(0, 1)");
    }

    private static void linkOfSameBlocks(Checks checks) {
        Checks.Recipe three = () -> Boxes.laden(Boxes.ones(3));
        int[] blocks = {0, 1, 2};
        checks.refusesEach(three, Checks.ARGUMENT, blocks, (box, n) -> box.addLink(n, n), "addLink to itself");
        checks.due(1, three.make().addLink(1, 0), "addLink(1, 0)");
        checks.due(1, three.make().addLink(1, 2), "addLink(1, 2)");
    }

    private static void linkRefused(Checks checks) {
        Checks.Recipe mixed = () -> {
            InterlockingBox box = Boxes.ones(5);
            box.addPoint(0, 1, 2);
            box.addLink(3, 1);
            return Boxes.laden(box);
        };
        checks.refuses(mixed, Checks.STATE, box -> box.addLink(0, 1), "addLink from a stem to its branch");
        checks.refuses(mixed, Checks.STATE, box -> box.addLink(0, 4), "addLink from a stem");
        checks.refuses(mixed, Checks.STATE, box -> box.addLink(3, 1), "addLink of the same link");
        checks.refuses(mixed, Checks.STATE, box -> box.addLink(3, 4), "addLink from a linked block");
        checks.due(2, mixed.make().addLink(1, 0), "addLink from a branch to its stem");
        checks.due(2, mixed.make().addLink(1, 3), "addLink back along a link");
        checks.due(2, mixed.make().addLink(4, 1), "addLink to the end of another link");
    }

    private static void addShutting(Suite suite) {
        suite.promise(5, "Shuts a block.", LineSentences::shutsABlock);
        suite.promise(5, "Returns the number of shut blocks afterwards.", LineSentences::numberOfShutBlocks);
        suite.promise(5, "Throws `IndexOutOfBoundsException` if there is no such block",
                checks -> noSuchBlock(checks, InterlockingBox::shut, "shut"));
        suite.promise(5, "Throws `IllegalStateException` if it is shut or reserved", LineSentences::shutRefused);
        suite.promise(6, "Opens a shut block.", LineSentences::opensABlock);
        suite.promise(6, "Returns the number of shut blocks afterwards.", LineSentences::numberStillShut);
        suite.promise(6, "Throws `IndexOutOfBoundsException` if there is no such block", LineSentences::openOfNoBlock);
        suite.promise(6, "Throws `IllegalStateException` if it is not shut", LineSentences::openRefused);
    }

    /** The call is refused for all blocks that there are not, and answered for the first and the last one. */
    private static void noSuchBlock(Checks checks, Checks.NumberedUse use, String what) {
        for (int blocks : new int[] {0, 1, 3, 12}) {
            Checks.Recipe some = () -> Boxes.laden(Boxes.ones(blocks));
            checks.refusesEach(some, Checks.INDEX, Checks.outside(blocks), use, what);
            if (blocks > 0) {
                checks.answers(() -> use.of(some.make(), 0), what + " with the first block");
                checks.answers(() -> use.of(some.make(), blocks - 1), what + " with the last block");
            }
        }
    }

    private static void shutsABlock(Checks checks) {
        InterlockingBox box = Boxes.ones(12);
        box.shut(0);
        checks.due("sfffffffffff", Boxes.blocks(box), "the blocks");
        box.shut(11);
        checks.due("sffffffffffs", Boxes.blocks(box), "the blocks");
    }

    private static void numberOfShutBlocks(Checks checks) {
        InterlockingBox box = Boxes.ones(12);
        for (int i = 0; i < 12; i++) {
            checks.due(i + 1, box.shut(11 - i), "shut");
        }
        box.open(4);
        checks.due(12, box.shut(4), "shut(4) after open(4)");
    }

    /** A row whose first three blocks are occupied, reserved and reserved as a destination; the last one is free. */
    private static InterlockingBox reservedRow() {
        InterlockingBox box = Boxes.row(1, 2, 1, 1);
        box.addTrain(0, 2);
        box.setRoute(0);
        return Boxes.laden(box);
    }

    private static void shutRefused(Checks checks) {
        checks.refuses(LineSentences::reservedRow, Checks.STATE, box -> box.shut(1), "shut of a reserved block");
        checks.refuses(LineSentences::reservedRow, Checks.STATE, box -> box.shut(2), "shut of a reserved destination");
        checks.due(1, reservedRow().shut(0), "shut of an occupied block");
        checks.due(1, reservedRow().shut(3), "shut of a free block");
        Checks.Recipe shut = () -> {
            InterlockingBox box = reservedRow();
            box.shut(0);
            box.shut(3);
            return box;
        };
        checks.refuses(shut, Checks.STATE, box -> box.shut(3), "shut of a shut block");
        checks.refuses(shut, Checks.STATE, box -> box.shut(0), "shut of a shut and occupied block");
        Checks.Recipe before = () -> {
            InterlockingBox box = reservedRow();
            box.pass(1);
            return box;
        };
        checks.refuses(before, Checks.STATE, box -> box.shut(1), "shut in the minute before it is entered");
        InterlockingBox entered = before.make();
        entered.pass(1);
        checks.due(1, entered.shut(1), "shut of a block that was entered");
        InterlockingBox released = reservedRow();
        released.releaseRoute(0);
        checks.due(1, released.shut(1), "shut of a block that is reserved no more");
        checks.due(2, released.shut(2), "shut of a destination that is reserved no more");
    }

    private static void opensABlock(Checks checks) {
        InterlockingBox box = Boxes.row(1, 1);
        box.addTrain(0, 1);
        box.shut(0);
        box.shut(1);
        box.open(0);
        checks.due("o0s", Boxes.blocks(box), "the blocks");
        box.open(1);
        checks.due("o0f", Boxes.blocks(box), "the blocks");
        checks.due(1, box.setRoute(0), "setRoute(0) into the open block");
    }

    private static void numberStillShut(Checks checks) {
        InterlockingBox box = Boxes.ones(12);
        for (int i = 0; i < 12; i++) {
            box.shut(i);
        }
        for (int i = 0; i < 12; i++) {
            checks.due(11 - i, box.open(i), "open");
        }
    }

    private static void openOfNoBlock(Checks checks) {
        Checks.Recipe shut = () -> {
            InterlockingBox box = Boxes.ones(3);
            box.shut(0);
            box.shut(2);
            return Boxes.laden(box);
        };
        checks.refusesEach(shut, Checks.INDEX, Checks.outside(3), InterlockingBox::open, "open");
        checks.due(1, shut.make().open(0), "open of the first block");
        checks.due(1, shut.make().open(2), "open of the last block");
        checks.refuses(() -> Boxes.laden(Boxes.ones(0)), Checks.INDEX, box -> box.open(0), "open(0)");
    }

    private static void openRefused(Checks checks) {
        checks.refusesEach(LineSentences::reservedRow, Checks.STATE, new int[] {0, 1, 2, 3}, InterlockingBox::open, "open");
        Checks.Recipe opened = () -> {
            InterlockingBox box = Boxes.ones(2);
            box.shut(0);
            box.shut(1);
            box.open(0);
            return Boxes.laden(box);
        };
        checks.refuses(opened, Checks.STATE, box -> box.open(0), "open of a block that was opened");
        checks.due(0, opened.make().open(1), "open of the shut block");
    }

    private static void addThrowing(Suite suite) {
        suite.promise(7, "Moves a point to the other side.", LineSentences::movesAPoint);
        suite.promise(7, "Returns true if it lies to the left afterwards.", LineSentences::liesLeftAfterwards);
        suite.promise(7, "Throws `IndexOutOfBoundsException` if there is no such point",
                checks -> noSuchPoint(checks, InterlockingBox::throwPoint, "throwPoint"));
        suite.promise(7, "Throws `IllegalStateException` if it is locked", LineSentences::throwLocked);
    }

    private static void movesAPoint(Checks checks) {
        InterlockingBox box = points(8);
        box.throwPoint(0);
        box.throwPoint(7);
        box.throwPoint(7);
        box.throwPoint(7);
        box.throwPoint(3);
        box.throwPoint(3);
        for (int i = 0; i < 8; i++) {
            checks.due(i != 0 && i != 7, box.liesLeft(i), "liesLeft of point " + i);
        }
    }

    private static void liesLeftAfterwards(Checks checks) {
        InterlockingBox box = points(8);
        checks.due(false, box.throwPoint(7), "throwPoint(7)");
        checks.due(true, box.throwPoint(7), "throwPoint(7) again");
        checks.due(false, box.throwPoint(7), "throwPoint(7) once more");
        checks.due(false, box.throwPoint(0), "throwPoint(0)");
    }

    /** The call is refused for all points that there are not, and answered for the first and the last one. */
    private static void noSuchPoint(Checks checks, Checks.NumberedUse use, String what) {
        for (int count : new int[] {0, 1, 8}) {
            checks.refusesEach(() -> points(count), Checks.INDEX, Checks.outside(count), use, what);
            if (count > 0) {
                checks.answers(() -> use.of(points(count), 0), what + " with the first point");
                checks.answers(() -> use.of(points(count), count - 1), what + " with the last point");
            }
        }
        checks.refuses(() -> points(1), Checks.INDEX, box -> use.of(box, 10), what + " with a branch");
    }

    /** A route over the stems 0 and 1 to the stem 2; point 3 stands beside it. */
    private static InterlockingBox lockedPoints() {
        InterlockingBox box = Boxes.withBlocks(1, 1, 2, 1, 1);
        box.addPoint(0, 4, 1);
        box.addPoint(1, 2, 4);
        box.addPoint(2, 3, 4);
        box.addPoint(3, 4, 0);
        box.addTrain(0, 2);
        return Boxes.laden(box);
    }

    private static InterlockingBox lockedPointsSet() {
        InterlockingBox box = lockedPoints();
        box.setRoute(0);
        return box;
    }

    private static void throwLocked(Checks checks) {
        checks.due(false, lockedPoints().throwPoint(0), "throwPoint before the route is set");
        checks.refuses(LineSentences::lockedPointsSet, Checks.STATE, box -> box.throwPoint(0), "throwPoint of the first");
        checks.refuses(LineSentences::lockedPointsSet, Checks.STATE, box -> box.throwPoint(1), "throwPoint of the second");
        checks.due(false, lockedPointsSet().throwPoint(2), "throwPoint of the destination's point");
        checks.due(false, lockedPointsSet().throwPoint(3), "throwPoint beside the route");
        Checks.Recipe onTheWay = () -> {
            InterlockingBox box = lockedPointsSet();
            box.pass(1);
            return box;
        };
        checks.due(true, onTheWay.make().throwPoint(0), "throwPoint behind the train");
        checks.refuses(onTheWay, Checks.STATE, box -> box.throwPoint(1), "throwPoint under the train");
        InterlockingBox arrived = onTheWay.make();
        arrived.pass(1);
        checks.throwsOnly(Checks.STATE, () -> arrived.throwPoint(1), "throwPoint in the minute before the arrival");
        arrived.pass(1);
        checks.due(false, arrived.throwPoint(1), "throwPoint after the arrival");
        InterlockingBox released = lockedPointsSet();
        released.releaseRoute(0);
        checks.due(true, released.throwPoint(0), "throwPoint after releaseRoute");
        checks.due(false, released.throwPoint(1), "throwPoint after releaseRoute");
    }

    private static void addPropertiesOfBlocks(Suite suite) {
        suite.promise(12, "Returns the number of blocks.", LineSentences::numberOfBlocks);
        suite.promise(13, "Returns the length of a block.", LineSentences::lengthOfABlock);
        suite.promise(13, "Throws `IndexOutOfBoundsException` if there is no such block",
                checks -> noSuchBlock(checks, InterlockingBox::blockLength, "blockLength"));
        suite.promise(14, "Returns 's' if it is shut, otherwise 'o' if it is occupied, otherwise 'r' if it is reserved, "
                + "otherwise 'f'.", LineSentences::stateOfABlock);
        suite.promise(14, "Throws `IndexOutOfBoundsException` if there is no such block",
                checks -> noSuchBlock(checks, InterlockingBox::blockState, "blockState"));
        suite.promise(15, "Returns the train that occupies a block or for which it is reserved.",
                LineSentences::trainAtABlock);
        suite.promise(15, "Throws `IndexOutOfBoundsException` if there is no such block", LineSentences::trainAtNoBlock);
        suite.promise(15, "Throws `NoSuchElementException` if there is no such train", LineSentences::noTrainAtABlock);
    }

    private static void numberOfBlocks(Checks checks) {
        for (int blocks = 0; blocks <= 12; blocks++) {
            checks.due(blocks, Boxes.ones(blocks).blocks(), "blocks()");
        }
        InterlockingBox box = Boxes.ones(12);
        box.undo();
        checks.due(11, box.blocks(), "blocks() after undo()");
    }

    private static void lengthOfABlock(Checks checks) {
        int[] lengths = {9, 1, 2, 3, 4, 5, 6, 7, 8, 9, 1, 9};
        InterlockingBox box = Boxes.withBlocks(lengths);
        for (int i = 0; i < 12; i++) {
            checks.due(lengths[i], box.blockLength(i), "blockLength of block " + i);
        }
    }

    private static void stateOfABlock(Checks checks) {
        InterlockingBox box = reservedRow();
        checks.due('o', box.blockState(0), "blockState of an occupied block");
        checks.due('r', box.blockState(1), "blockState of a reserved block");
        checks.due('r', box.blockState(2), "blockState of a reserved destination");
        checks.due('f', box.blockState(3), "blockState of a free block");
        box.shut(0);
        box.shut(3);
        checks.due('s', box.blockState(0), "blockState of a shut and occupied block");
        checks.due('s', box.blockState(3), "blockState of a shut block");
        box.pass(1);
        checks.due('r', box.blockState(1), "blockState in the minute before it is entered");
        box.pass(1);
        checks.due('s', box.blockState(0), "blockState of a shut block that was left");
        checks.due('o', box.blockState(1), "blockState of a block that was entered");
        box.open(0);
        checks.due('f', box.blockState(0), "blockState of a block that was left");
        box.pass(1);
        checks.due('f', box.blockState(2), "blockState of the destination after the arrival");
    }

    private static void trainAtABlock(Checks checks) {
        InterlockingBox box = reservedRow();
        box.addTrain(3, 0);
        checks.due(0, box.trainAt(0), "trainAt of an occupied block");
        checks.due(0, box.trainAt(1), "trainAt of a reserved block");
        checks.due(0, box.trainAt(2), "trainAt of a reserved destination");
        checks.due(1, box.trainAt(3), "trainAt of the last block");
        box.shut(3);
        checks.due(1, box.trainAt(3), "trainAt of a shut and occupied block");
        box.pass(2);
        checks.due(0, box.trainAt(1), "trainAt of a block that was entered");
        checks.due(0, box.trainAt(2), "trainAt of a block that is still reserved");
    }

    private static void trainAtNoBlock(Checks checks) {
        checks.refusesEach(LineSentences::reservedRow, Checks.INDEX, Checks.outside(4), InterlockingBox::trainAt, "trainAt");
        Checks.Recipe full = () -> {
            InterlockingBox box = Boxes.ones(12);
            box.addTrain(11, 0);
            return Boxes.laden(box);
        };
        checks.refuses(full, Checks.INDEX, box -> box.trainAt(12), "trainAt(12)");
        checks.due(0, full.make().trainAt(11), "trainAt(11)");
        checks.refuses(() -> Boxes.laden(Boxes.ones(0)), Checks.INDEX, box -> box.trainAt(0), "trainAt(0)");
    }

    private static void noTrainAtABlock(Checks checks) {
        Checks.Recipe row = () -> {
            InterlockingBox box = Boxes.row(1, 1, 1, 1);
            box.addTrain(1, 3);
            box.shut(0);
            return Boxes.laden(box);
        };
        checks.refusesEach(row, Checks.ELEMENT, new int[] {0, 2, 3}, InterlockingBox::trainAt, "trainAt of no train");
        InterlockingBox box = row.make();
        checks.due(0, box.trainAt(1), "trainAt(1)");
        box.setRoute(0);
        checks.due(0, box.trainAt(2), "trainAt(2) when it is reserved");
        box.pass(1);
        checks.throwsOnly(Checks.ELEMENT, () -> box.trainAt(1), "trainAt of a block that was left");
        box.releaseRoute(0);
        checks.due(0, box.trainAt(2), "trainAt(2) when it is occupied");
        checks.throwsOnly(Checks.ELEMENT, () -> box.trainAt(3), "trainAt of a block that is reserved no more");
        box.setRoute(0);
        box.pass(1);
        checks.throwsOnly(Checks.ELEMENT, () -> box.trainAt(3), "trainAt of the destination after the arrival");
    }

    private static void addPropertiesOfPoints(Suite suite) {
        suite.promise(16, "Returns true if it lies to the left.", LineSentences::pointLiesLeft);
        suite.promise(16, "Throws `IndexOutOfBoundsException` if there is no such point",
                checks -> noSuchPoint(checks, InterlockingBox::liesLeft, "liesLeft"));
        suite.promise(17, "Returns the train by which a point is locked.", LineSentences::lockerOfAPoint);
        suite.promise(17, "Throws `IndexOutOfBoundsException` if there is no such point", LineSentences::lockerOfNoPoint);
        suite.promise(17, "Throws `NoSuchElementException` if it is not locked", LineSentences::pointIsNotLocked);
    }

    private static void pointLiesLeft(Checks checks) {
        InterlockingBox box = lockedPoints();
        checks.due(true, box.liesLeft(0), "liesLeft of a new point");
        box.throwPoint(2);
        checks.due(false, box.liesLeft(2), "liesLeft after throwPoint");
        box.throwPoint(1);
        box.setRoute(0);
        checks.due(false, box.liesLeft(0), "liesLeft on a route to the right");
        checks.due(true, box.liesLeft(1), "liesLeft on a route to the left");
        checks.due(false, box.liesLeft(2), "liesLeft at the end of the route");
        checks.due(true, box.liesLeft(3), "liesLeft beside the route");
        box.undo();
        checks.due(true, box.liesLeft(0), "liesLeft after undo()");
        checks.due(false, box.liesLeft(1), "liesLeft after undo()");
    }

    private static void lockerOfAPoint(Checks checks) {
        InterlockingBox box = lockedPoints();
        box.addTrain(3, 4);
        box.setRoute(1);
        box.setRoute(0);
        checks.due(0, box.lockedBy(0), "lockedBy of the first point");
        checks.due(0, box.lockedBy(1), "lockedBy of the second point");
        checks.due(1, box.lockedBy(3), "lockedBy of the last point");
        box.pass(1);
        checks.due(0, box.lockedBy(1), "lockedBy of the point under the train");
    }

    private static void lockerOfNoPoint(Checks checks) {
        Checks.Recipe set = LineSentences::lockedPointsSet;
        checks.refusesEach(set, Checks.INDEX, Checks.outside(4), InterlockingBox::lockedBy, "lockedBy");
        checks.due(0, set.make().lockedBy(0), "lockedBy of the first point");
        Checks.Recipe full = () -> {
            InterlockingBox box = points(8);
            box.addTrain(7, 10);
            box.setRoute(0);
            return box;
        };
        checks.refuses(full, Checks.INDEX, box -> box.lockedBy(8), "lockedBy(8)");
        checks.due(0, full.make().lockedBy(7), "lockedBy(7)");
        checks.refuses(() -> points(0), Checks.INDEX, box -> box.lockedBy(0), "lockedBy(0)");
    }

    private static void pointIsNotLocked(Checks checks) {
        int[] all = {0, 1, 2, 3};
        checks.refusesEach(LineSentences::lockedPoints, Checks.ELEMENT, all, InterlockingBox::lockedBy, "lockedBy");
        int[] free = {2, 3};
        checks.refusesEach(LineSentences::lockedPointsSet, Checks.ELEMENT, free, InterlockingBox::lockedBy, "lockedBy");
        InterlockingBox box = lockedPointsSet();
        box.pass(1);
        checks.throwsOnly(Checks.ELEMENT, () -> box.lockedBy(0), "lockedBy behind the train");
        box.pass(1);
        checks.due(0, box.lockedBy(1), "lockedBy in the minute before the arrival");
        box.pass(1);
        checks.throwsOnly(Checks.ELEMENT, () -> box.lockedBy(1), "lockedBy after the arrival");
        InterlockingBox released = lockedPointsSet();
        released.releaseRoute(0);
        checks.throwsOnly(Checks.ELEMENT, () -> released.lockedBy(0), "lockedBy after releaseRoute");
        checks.refuses(LineSentences::fullLine, Checks.ELEMENT, full -> full.lockedBy(7), "lockedBy with eight trains");
        checks.due(false, fullLine().throwPoint(7), "throwPoint with eight trains");
    }

    /** Eight points with a train on the stem of each one, and no set route. */
    private static InterlockingBox fullLine() {
        InterlockingBox box = points(8);
        for (int i = 0; i < 8; i++) {
            box.addTrain(i, 9);
        }
        return box;
    }
}
