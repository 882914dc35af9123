/** Promise 1 and promises 41 to 49: the new box, the sums and the output line, each sentence at its boundaries. */
final class SumSentences {
    private static final int CALLS = 512;

    private SumSentences() {
    }

    static void addTo(Suite suite) {
        suite.promise(1, "Creates a signal box without blocks and trains, at time 0.", SumSentences::newBox);
        addCounts(suite);
        addShares(suite);
        addWriting(suite);
    }

    private static void newBox(Checks checks) {
        InterlockingBox box = new InterlockingBox();
        checks.due(0, box.blocks(), "blocks()");
        checks.due(0, box.trains(), "trains()");
        checks.due(0, box.time(), "time()");
        checks.due(0, box.arrived(), "arrived()");
        checks.due(0L, box.totalDelay(), "totalDelay()");
        checks.due(false, box.isPresent(0), "isPresent(0)");
        checks.due("", Boxes.queue(box), "the queue");
        checks.throwsOnly(Checks.INDEX, () -> box.liesLeft(0), "liesLeft(0)");
        InterlockingBox other = Boxes.row(1, 1);
        other.addTrain(0, 1);
        other.pass(1);
        checks.due(0, box.blocks() + box.trains() + box.time(), "the numbers of a box beside another one");
        checks.due(0, box.addBlock(1), "addBlock(1)");
        checks.due(2, other.blocks(), "blocks() of the other one");
    }

    private static void addCounts(Suite suite) {
        suite.promise(41, "Returns the time.", SumSentences::timeAtFirst);
        suite.promise(41, "Returns the number of minutes that have passed.", SumSentences::minutesThatPassed);
        suite.promise(42, "Returns the number of trains that have arrived so far.", SumSentences::arrived);
        suite.promise(43, "Returns the sum of the delays of all trains that have come so far.", SumSentences::sumOfDelays);
        suite.promise(43, "Returns the sum in minutes.", SumSentences::greatSum);
        suite.promise(46, "Returns true if the invariants hold.", SumSentences::invariants);
    }

    private static void timeAtFirst(Checks checks) {
        InterlockingBox box = new InterlockingBox();
        checks.due(0, box.time(), "time()");
        box.pass(1);
        checks.due(1, box.time(), "time() after one minute");
        checks.throwsOnly(Checks.ARGUMENT, () -> box.pass(241), "pass(241)");
        checks.due(1, box.time(), "time() after a refused call");
        box.undo();
        checks.due(0, box.time(), "time() after undo()");
    }

    /** The last of 512 calls, with the greatest number of minutes in all others. */
    private static void minutesThatPassed(Checks checks) {
        InterlockingBox box = new InterlockingBox();
        for (int i = 1; i < CALLS; i++) {
            box.pass(240);
        }
        checks.due(240 * (CALLS - 1), box.time(), "time() as the last call");
    }

    private static void arrived(Checks checks) {
        InterlockingBox box = Boxes.row(1, 2);
        checks.due(0, box.arrived(), "arrived()");
        box.addTrain(0, 1);
        box.setRoute(0);
        box.pass(1);
        checks.due(0, box.arrived(), "arrived() in the minute before the arrival");
        box.pass(1);
        checks.due(1, box.arrived(), "arrived() in the minute of the arrival");
        box.undo();
        checks.due(0, box.arrived(), "arrived() after undo()");
        box.pass(240);
        checks.due(1, box.arrived(), "arrived()");
        InterlockingBox many = Boxes.row(1, 1);
        for (int i = 1; i <= 250; i++) {
            many.addTrain(0, 1);
            many.pass(2);
        }
        checks.due(250, many.arrived(), "arrived() of many trains");
    }

    private static void sumOfDelays(Checks checks) {
        InterlockingBox box = Boxes.row(1, 1, 1);
        checks.due(0L, box.totalDelay(), "totalDelay() without trains");
        box.addTrain(1, 2);
        box.addTrain(0, 1);
        checks.due(0L, box.totalDelay(), "totalDelay() of new trains");
        box.pass(1);
        checks.due(1L, box.totalDelay(), "totalDelay() after one minute");
        box.pass(1);
        checks.due(1L, box.totalDelay(), "totalDelay() in the minute that sets the other route");
        box.pass(1);
        checks.due(0, box.trains(), "trains()");
        checks.due(1L, box.totalDelay(), "totalDelay() of trains that arrived");
        box.addTrain(2, 0);
        box.pass(2);
        checks.due(3L, box.totalDelay(), "totalDelay() with another train");
        box.undo();
        checks.due(1L, box.totalDelay(), "totalDelay() after undo()");
    }

    /** The greatest sum of delays that 512 calls can lead to. */
    private static void greatSum(Checks checks) {
        InterlockingBox box = Boxes.ones(9);
        for (int i = 0; i < 8; i++) {
            box.addTrain(i, 8);
        }
        int passes = CALLS - 9 - 8 - 1;
        for (int i = 0; i < passes; i++) {
            box.pass(240);
        }
        checks.due(8L * 240 * passes, box.totalDelay(), "totalDelay() as the last call");
    }

    private static void invariants(Checks checks) {
        checks.due(true, new InterlockingBox().isConsistent(), "isConsistent() of a new box");
        InterlockingBox box = Boxes.row(9, 1, 9, 1, 9, 1, 9, 1, 9, 1, 9, 1);
        checks.due(true, box.isConsistent(), "isConsistent() of twelve blocks");
        for (int i = 0; i < 8; i++) {
            box.addTrain(i, 11 - i % 2);
        }
        box.shut(11);
        box.shut(3);
        for (int i = 0; i < 90; i++) {
            checks.due(true, box.isConsistent(), "isConsistent() of eight trains");
            box.pass(1);
        }
        box.open(11);
        checks.due(true, box.isConsistent(), "isConsistent() with an open block");
        box.undo();
        checks.due(true, box.isConsistent(), "isConsistent() after undo()");
    }

    private static void addShares(Suite suite) {
        suite.promise(44, "Returns the mean delay: the sum of the delays of all trains that have come so far divided by "
                + "their number, both converted to double.", SumSentences::meanDelay);
        suite.promise(44, "Throws `ArithmeticException` if no train has come", SumSentences::noMeanDelay);
        suite.promise(45, "Returns the quotient of the number of blocks that are occupied or reserved and the number of "
                + "blocks, both converted to float.", SumSentences::usedShare);
        suite.promise(45, "Throws `ArithmeticException` if there are no blocks", SumSentences::noUsedShare);
    }

    private static void meanDelay(Checks checks) {
        InterlockingBox box = Boxes.ones(9);
        box.addTrain(0, 8);
        checks.due(0.0, box.meanDelay(), "meanDelay() of a new train");
        box.pass(1);
        checks.due(1.0, box.meanDelay(), "meanDelay() of one train");
        box.addTrain(1, 8);
        checks.due(0.5, box.meanDelay(), "meanDelay() of two trains");
        box.addTrain(2, 8);
        checks.due(1.0 / 3.0, box.meanDelay(), "meanDelay() of three trains");
        for (int i = 3; i < 7; i++) {
            box.addTrain(i, 8);
        }
        box.pass(2);
        checks.due(15.0 / 7.0, box.meanDelay(), "meanDelay() of seven trains");
        InterlockingBox arrived = Boxes.row(1, 1, 1);
        arrived.addTrain(1, 2);
        arrived.addTrain(0, 1);
        arrived.pass(3);
        checks.due(0, arrived.trains(), "trains()");
        checks.due(0.5, arrived.meanDelay(), "meanDelay() of trains that arrived");
    }

    private static void noMeanDelay(Checks checks) {
        checks.throwsOnly(Checks.DIVISION, () -> new InterlockingBox().meanDelay(), "meanDelay() of a new box");
        Checks.Recipe empty = () -> {
            InterlockingBox box = Boxes.row(1, 1);
            box.pass(9);
            return Boxes.laden(box);
        };
        checks.refuses(empty, Checks.DIVISION, InterlockingBox::meanDelay, "meanDelay() without trains");
        Checks.Recipe undone = () -> {
            InterlockingBox box = empty.make();
            box.addTrain(0, 1);
            box.undo();
            return box;
        };
        checks.refuses(undone, Checks.DIVISION, InterlockingBox::meanDelay, "meanDelay() after undo()");
        InterlockingBox box = empty.make();
        box.addTrain(0, 1);
        checks.due(0.0, box.meanDelay(), "meanDelay() of a train");
        box.pass(2);
        checks.due(0.0, box.meanDelay(), "meanDelay() of a train that arrived");
    }

    private static void usedShare(Checks checks) {
        for (int blocks = 2; blocks <= 12; blocks++) {
            int[] lengths = new int[blocks];
            java.util.Arrays.fill(lengths, 1);
            InterlockingBox box = Boxes.row(lengths);
            checks.due(0.0f, box.usedShare(), "usedShare() without trains");
            box.addTrain(0, blocks - 1);
            checks.due(1.0f / (float) blocks, box.usedShare(), "usedShare() with an occupied block");
            box.shut(0);
            checks.due(1.0f / (float) blocks, box.usedShare(), "usedShare() with a shut and occupied block");
            box.setRoute(0);
            checks.due(1.0f, box.usedShare(), "usedShare() with all blocks occupied or reserved");
            box.pass(1);
            checks.due((float) (blocks == 2 ? 0 : blocks - 1) / (float) blocks, box.usedShare(), "usedShare() later");
        }
        InterlockingBox shut = Boxes.ones(3);
        shut.shut(0);
        checks.due(0.0f, shut.usedShare(), "usedShare() with a shut block");
    }

    private static void noUsedShare(Checks checks) {
        checks.refuses(() -> Boxes.laden(Boxes.ones(0)), Checks.DIVISION, InterlockingBox::usedShare, "usedShare()");
        InterlockingBox box = Boxes.ones(1);
        checks.due(0.0f, box.usedShare(), "usedShare() of one block");
        box.undo();
        checks.throwsOnly(Checks.DIVISION, box::usedShare, "usedShare() after undo()");
    }

    private static void addWriting(Suite suite) {
        suite.promise(47, "Writes the blocks to the output line, which replaces its old content: for each block its state "
                + "as in blockState, followed by the number of the train if it is occupied or reserved and not shut; for "
                + "example \"fo0r0sf\".", SumSentences::writesBlocks);
        suite.promise(47, "Returns the length of the line.", SumSentences::lengthOfTheBlocks);
        suite.promise(48, "Writes a train to the output line, which replaces its old content: its number, \"@\", the "
                + "block that it occupies, and for each further block of its set route \">\" and the block, or \"?\" and "
                + "its destination if it has no set route; for example \"3@0>2>5\" or \"3@0?5\".",
                SumSentences::writesTrain);
        suite.promise(48, "Returns the length of the line.", SumSentences::lengthOfTheTrain);
        suite.promise(48, "Throws `NoSuchElementException` if there is no such train",
                checks -> TrainSentences.noSuchTrain(checks, false, InterlockingBox::writeTrain, "writeTrain"));
        suite.promise(49, "Returns a character of the output line, which is initially empty.", SumSentences::emptyLine);
        suite.promise(49, "`index`: the index, counted from 0", SumSentences::indices);
        suite.promise(49, "Throws `IndexOutOfBoundsException` if the index is negative or not less than the length",
                SumSentences::indexOutside);
    }

    /** The box of the example: one more train stands in a shut block. */
    private static InterlockingBox exampleOfBlocks() {
        InterlockingBox box = Boxes.ones(5);
        box.addLink(1, 2);
        box.addTrain(1, 2);
        box.addTrain(3, 2);
        box.shut(3);
        box.setRoute(0);
        return box;
    }

    private static void writesBlocks(Checks checks) {
        InterlockingBox box = exampleOfBlocks();
        checks.due("fo0r0sf", Boxes.blocks(box), "the blocks");
        box.open(3);
        checks.due("fo0r0o1f", Boxes.blocks(box), "the blocks when block 3 is open");
        box.shut(1);
        checks.due("fsr0o1f", Boxes.blocks(box), "the blocks when block 1 is shut");
        checks.due("", Boxes.blocks(new InterlockingBox()), "the blocks of a new box");
        checks.due("f", Boxes.blocks(Boxes.ones(1)), "the blocks of one block");
        InterlockingBox many = Boxes.row(1, 1, 1);
        for (int i = 0; i < 101; i++) {
            if (i == 9 || i == 10 || i == 99 || i == 100) {
                many.addTrain(0, 2);
                many.setRoute(i);
                String held = "o" + i + "r" + i + "r" + i;
                checks.due(held, Boxes.blocks(many), "the blocks with train " + i);
                many.undo();
                many.undo();
            }
            many.addTrain(0, 1);
            many.pass(2);
        }
    }

    private static void lengthOfTheBlocks(Checks checks) {
        checks.due(0, new InterlockingBox().writeBlocks(), "writeBlocks() of a new box");
        checks.due(1, Boxes.ones(1).writeBlocks(), "writeBlocks() of one block");
        checks.due(12, Boxes.ones(12).writeBlocks(), "writeBlocks() of twelve blocks");
        checks.due(7, exampleOfBlocks().writeBlocks(), "writeBlocks() of the example");
        InterlockingBox full = Boxes.row(1, 1, 1, 1, 1, 1, 1, 1, 1, 1, 1, 1);
        full.addTrain(0, 11);
        full.setRoute(0);
        checks.due(24, full.writeBlocks(), "writeBlocks() of twelve reserved blocks");
    }

    private static InterlockingBox exampleOfTrains() {
        InterlockingBox box = Boxes.ones(6);
        box.addLink(0, 2);
        box.addLink(2, 5);
        box.addTrain(1, 0);
        box.addTrain(3, 0);
        box.addTrain(4, 0);
        box.addTrain(0, 5);
        return box;
    }

    private static void writesTrain(Checks checks) {
        InterlockingBox box = exampleOfTrains();
        checks.due("3@0?5", Boxes.train(box, 3), "train 3 without a set route");
        checks.due("0@1?0", Boxes.train(box, 0), "train 0 without a way");
        box.setRoute(3);
        checks.due("3@0>2>5", Boxes.train(box, 3), "train 3 with a set route");
        box.pass(1);
        checks.due("3@2>5", Boxes.train(box, 3), "train 3 in the last block but one");
        box.releaseRoute(3);
        checks.due("3@2?5", Boxes.train(box, 3), "train 3 with a released route");
        InterlockingBox wide = Boxes.row(1, 1, 1, 1, 1, 1, 1, 1, 1, 1, 1, 1);
        wide.addTrain(0, 11);
        checks.due("0@0?11", Boxes.train(wide, 0), "a train on its way to block 11");
        wide.setRoute(0);
        checks.due("0@0>1>2>3>4>5>6>7>8>9>10>11", Boxes.train(wide, 0), "a train with a route over all blocks");
        wide.pass(10);
        checks.due("0@10>11", Boxes.train(wide, 0), "a train in block 10");
    }

    private static void lengthOfTheTrain(Checks checks) {
        InterlockingBox box = exampleOfTrains();
        checks.due(5, box.writeTrain(3), "writeTrain(3) without a set route");
        box.setRoute(3);
        checks.due(7, box.writeTrain(3), "writeTrain(3) with a set route");
        InterlockingBox wide = Boxes.row(1, 1, 1, 1, 1, 1, 1, 1, 1, 1, 1, 1);
        wide.addTrain(0, 11);
        checks.due(6, wide.writeTrain(0), "writeTrain(0) to block 11");
        wide.setRoute(0);
        checks.due(27, wide.writeTrain(0), "writeTrain(0) over all blocks");
    }

    private static void emptyLine(Checks checks) {
        Checks.Recipe fresh = InterlockingBox::new;
        checks.refusesEach(fresh, Checks.INDEX, new int[] {0, 1, -1}, InterlockingBox::charAt, "charAt in a new box");
        Checks.Recipe emptied = () -> {
            InterlockingBox box = new InterlockingBox();
            box.writeBlocks();
            return box;
        };
        checks.refuses(emptied, Checks.INDEX, box -> box.charAt(0), "charAt(0) in a line without blocks");
        InterlockingBox box = exampleOfBlocks();
        checks.throwsOnly(Checks.INDEX, () -> box.charAt(0), "charAt(0) before a line is written");
        box.writeBlocks();
        checks.due('f', box.charAt(0), "charAt(0) of a line");
    }

    private static void indices(Checks checks) {
        InterlockingBox box = exampleOfBlocks();
        box.writeBlocks();
        String line = "fo0r0sf";
        for (int i = 0; i < line.length(); i++) {
            checks.due(line.charAt(i), box.charAt(i), "charAt(" + i + ")");
        }
        box.shut(0);
        checks.due('f', box.charAt(0), "charAt(0) of the line that was written before");
        box.undo();
        box.writeTrain(1);
        checks.due('1', box.charAt(0), "charAt(0) of the new line");
        checks.due('2', box.charAt(4), "charAt(4) of the new line");
    }

    private static void indexOutside(Checks checks) {
        Checks.Recipe written = () -> Boxes.laden(exampleOfBlocks());
        checks.refusesEach(written, Checks.INDEX, Checks.outside(7), InterlockingBox::charAt, "charAt");
        checks.due('f', written.make().charAt(0), "charAt(0)");
        checks.due('f', written.make().charAt(6), "charAt(6)");
        Checks.Recipe shorter = () -> {
            InterlockingBox box = written.make();
            box.writeTrain(1);
            return box;
        };
        checks.refusesEach(shorter, Checks.INDEX, new int[] {5, 6}, InterlockingBox::charAt, "charAt in a shorter line");
        checks.due('2', shorter.make().charAt(4), "charAt(4) in a shorter line");
        InterlockingBox longer = shorter.make();
        longer.writeBlocks();
        checks.due('f', longer.charAt(6), "charAt(6) in a longer line");
    }
}
