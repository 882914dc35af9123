import java.util.ArrayList;
import java.util.List;

/** What "Terms" says of blocks, points, links, routes, trains and running, each sentence at its boundaries. */
final class TermSentences {
    private TermSentences() {
    }

    static void addTo(Suite suite) {
        addBlocks(suite);
        addPoints(suite);
        addLinks(suite);
        addRoutes(suite);
        addTrains(suite);
    }

    private static void addBlocks(Suite suite) {
        suite.term("There are at most 12 blocks, numbered from 0 in the order in which they were added.",
                TermSentences::atMostTwelveBlocks);
        suite.term("A block has a length from 1 to 9, and is occupied by at most one train.",
                TermSentences::oneTrainInABlock);
        suite.term("It can be shut, which means that no train can enter it.", TermSentences::noTrainEntersAShutBlock);
    }

    private static void atMostTwelveBlocks(Checks checks) {
        InterlockingBox box = new InterlockingBox();
        for (int i = 0; i < 12; i++) {
            checks.throwsOnly(Checks.INDEX, () -> box.blockLength(box.blocks()), "blockLength of the next block");
            checks.due(i, box.addBlock(i % 9 + 1), "addBlock");
        }
        for (int i = 0; i < 12; i++) {
            checks.due(i % 9 + 1, box.blockLength(i), "blockLength(" + i + ")");
        }
        checks.throwsOnly(Checks.STATE, () -> box.addBlock(1), "addBlock as the thirteenth");
        checks.throwsOnly(Checks.REFUSED, () -> Boxes.run(box, "block 1"), "block 1 as the thirteenth");
        checks.due(12, box.blocks(), "blocks()");
    }

    private static void oneTrainInABlock(Checks checks) {
        checks.throwsOnly(Checks.ARGUMENT, () -> new InterlockingBox().addBlock(0), "addBlock(0)");
        checks.throwsOnly(Checks.ARGUMENT, () -> new InterlockingBox().addBlock(10), "addBlock(10)");
        checks.due(1, Boxes.withBlocks(1).blockLength(0), "the least length");
        checks.due(9, Boxes.withBlocks(9).blockLength(0), "the greatest length");
        InterlockingBox box = Boxes.circle(1, 2, 1, 3, 1, 2, 1, 3, 1, 2);
        for (int i = 0; i < 8; i++) {
            box.addTrain(i, (i + 3) % 10);
            int block = i;
            checks.throwsOnly(Checks.STATE, () -> box.addTrain(block, 9), "addTrain on an occupied block");
        }
        for (int minute = 0; minute < 20; minute++) {
            box.pass(1);
            int taken = 0;
            for (int train = 0; train < 8; train++) {
                if (box.isPresent(train)) {
                    checks.due(0, taken & 1 << box.blockOf(train), "other trains in the block of train " + train);
                    taken |= 1 << box.blockOf(train);
                }
            }
        }
    }

    private static void noTrainEntersAShutBlock(Checks checks) {
        InterlockingBox box = Boxes.row(1, 1, 1);
        box.addTrain(0, 2);
        box.shut(2);
        box.pass(240);
        checks.due("o0fs", Boxes.blocks(box), "the blocks with a shut destination");
        checks.throwsOnly(Checks.REFUSED, () -> box.setRoute(0), "setRoute(0) into a shut block");
        box.open(2);
        box.pass(1);
        checks.due("o0r0r0", Boxes.blocks(box), "the blocks with an open destination");
        checks.throwsOnly(Checks.STATE, () -> box.shut(2), "shut of a block that a train is about to enter");
        checks.throwsOnly(Checks.STATE, () -> box.shut(1), "shut of a block that a train is about to enter");
        box.shut(0);
        checks.due(1, box.pass(2), "pass(2) out of a shut block");
        checks.throwsOnly(Checks.STATE, () -> box.addTrain(0, 1), "addTrain on a shut block");
        checks.due("sff", Boxes.blocks(box), "the blocks after the arrival");
    }

    private static void addPoints(Suite suite) {
        suite.term("A point is a junction from one block, its stem, to two blocks, its left and its right branch; these "
                + "three blocks are different.", TermSentences::threeDifferentBlocks);
        suite.term("There are at most 8 points, numbered from 0 in the order in which they were added, and a block is the "
                + "stem of at most one point.", TermSentences::atMostEightPoints);
        suite.term("A point lies to the left or to the right, initially to the left.", TermSentences::initiallyToTheLeft);
        suite.term("A point that belongs to a set route is locked and cannot be moved.", TermSentences::lockedPoints);
    }

    private static void threeDifferentBlocks(Checks checks) {
        for (int stem = 0; stem < 3; stem++) {
            for (int left = 0; left < 3; left++) {
                for (int right = 0; right < 3; right++) {
                    InterlockingBox box = Boxes.ones(3);
                    int[] point = {stem, left, right};
                    boolean isGood = stem != left && stem != right && left != right;
                    Object got = Checks.outcome(() -> box.addPoint(point[0], point[1], point[2]));
                    checks.due(isGood ? (Object) 0 : Checks.ARGUMENT, got, "addPoint of " + stem + left + right);
                    checks.due(isGood ? 1 : stem == left ? 1 : 0, box.paths(stem, left), "paths to the left branch");
                    checks.due(isGood ? 1 : stem == right ? 1 : 0, box.paths(stem, right), "paths to the right branch");
                }
            }
        }
    }

    private static void atMostEightPoints(Checks checks) {
        InterlockingBox box = Boxes.ones(12);
        for (int i = 0; i < 8; i++) {
            checks.throwsOnly(Checks.INDEX, () -> box.liesLeft(indexOfNextPoint(box)), "liesLeft of the next point");
            checks.due(i, box.addPoint(11 - i, 0, 1), "addPoint");
            int stem = 11 - i;
            checks.throwsOnly(Checks.STATE, () -> box.addPoint(stem, 2, 3), "addPoint of the same stem");
        }
        checks.throwsOnly(Checks.STATE, () -> box.addPoint(3, 0, 1), "addPoint as the ninth");
        for (int i = 0; i < 8; i++) {
            box.throwPoint(i);
            box.addTrain(11 - i, 0);
            box.setRoute(i);
            checks.due(true, box.liesLeft(i), "liesLeft of the point whose stem is block " + (11 - i));
            checks.due(i, box.lockedBy(i), "lockedBy of the point whose stem is block " + (11 - i));
            box.releaseRoute(i);
        }
    }

    private static int indexOfNextPoint(InterlockingBox box) {
        int points = 0;
        for (int i = 0; i < 8; i++) {
            int point = i;
            points += Checks.outcome(() -> box.liesLeft(point)) instanceof Boolean ? 1 : 0;
        }
        return points;
    }

    private static void initiallyToTheLeft(Checks checks) {
        InterlockingBox box = Boxes.ones(10);
        for (int i = 0; i < 8; i++) {
            box.addPoint(i, 9, 8);
            checks.due(true, box.liesLeft(i), "liesLeft of a new point");
            checks.due(false, box.throwPoint(i), "throwPoint of a new point");
        }
        box.undo();
        box.undo();
        box.addPoint(7, 8, 9);
        checks.due(true, box.liesLeft(7), "liesLeft of a new point in place of one that was undone");
    }

    /** Train 0 goes from the stem 0 over the stem 1 to the stem 2. */
    private static InterlockingBox threeStems() {
        InterlockingBox box = Boxes.ones(5);
        box.addPoint(0, 4, 1);
        box.addPoint(1, 2, 4);
        box.addPoint(2, 3, 4);
        box.throwPoint(1);
        box.throwPoint(2);
        box.addTrain(0, 2);
        return box;
    }

    private static void lockedPoints(Checks checks) {
        for (int point = 0; point < 3; point++) {
            checks.due(point != 0, threeStems().throwPoint(point), "throwPoint without a set route");
        }
        InterlockingBox box = threeStems();
        box.setRoute(0);
        checks.throwsOnly(Checks.STATE, () -> box.throwPoint(0), "throwPoint of the first block's point");
        checks.throwsOnly(Checks.STATE, () -> box.throwPoint(1), "throwPoint of a point on the route");
        checks.due(true, box.throwPoint(2), "throwPoint of the last block's point");
        box.pass(1);
        checks.due(true, box.throwPoint(0), "throwPoint behind the train");
        checks.throwsOnly(Checks.STATE, () -> box.throwPoint(1), "throwPoint under the train");
        box.pass(1);
        checks.due(false, box.throwPoint(1), "throwPoint after the arrival");
    }

    private static void addLinks(Suite suite) {
        suite.term("From a block that is the stem of no point, there can be a link to one other block.",
                TermSentences::oneLink);
        suite.term("The exits of a block are its two branches, if it is the stem of a point, or the block to which its "
                + "link leads, if there is one, or none.", TermSentences::exits);
        suite.term("Trains run from a block to one of its exits, never back.", TermSentences::neverBack);
    }

    private static void oneLink(Checks checks) {
        InterlockingBox box = Boxes.ones(12);
        box.addPoint(0, 1, 2);
        checks.throwsOnly(Checks.STATE, () -> box.addLink(0, 3), "addLink from a stem");
        checks.throwsOnly(Checks.ARGUMENT, () -> box.addLink(3, 3), "addLink to the same block");
        checks.due(1, box.addLink(3, 0), "addLink to a stem");
        checks.throwsOnly(Checks.STATE, () -> box.addLink(3, 1), "addLink as the second one of a block");
        int links = 1;
        for (int i = 1; i < 12; i++) {
            if (i != 3) {
                links++;
                checks.due(links, box.addLink(i, 3), "addLink to one common block");
            }
        }
        checks.due(0, box.paths(3, 5), "paths from block 3 to block 5");
    }

    private static void exits(Checks checks) {
        InterlockingBox box = Boxes.ones(6);
        box.addPoint(0, 1, 2);
        box.addLink(1, 3);
        int[][] counts = {{1, 1, 1, 1, 0, 0}, {0, 1, 0, 1, 0, 0}, {0, 0, 1, 0, 0, 0}, {0, 0, 0, 1, 0, 0}};
        for (int from = 0; from < counts.length; from++) {
            for (int to = 0; to < 6; to++) {
                checks.due(counts[from][to], box.paths(from, to), "paths from " + from + " to " + to);
            }
        }
    }

    private static void neverBack(Checks checks) {
        InterlockingBox box = Boxes.row(1, 1, 1);
        checks.throwsOnly(Checks.ELEMENT, () -> box.routeLength(1, 0), "routeLength back along a link");
        box.addTrain(2, 0);
        box.pass(240);
        checks.due(2, box.blockOf(0), "blockOf a train without a way");
        InterlockingBox point = Boxes.ones(3);
        point.addPoint(0, 1, 2);
        checks.throwsOnly(Checks.ELEMENT, () -> point.routeLength(1, 0), "routeLength back from the left branch");
        checks.throwsOnly(Checks.ELEMENT, () -> point.routeLength(2, 0), "routeLength back from the right branch");
        checks.throwsOnly(Checks.ELEMENT, () -> point.routeLength(1, 2), "routeLength from branch to branch");
        point.addLink(1, 0);
        checks.due(2, point.routeLength(1, 2), "routeLength from branch to branch over the stem");
    }

    private static void addRoutes(Suite suite) {
        suite.term("A path is a sequence of different blocks in which each block, except the first one, is an exit of the "
                + "one before it.", TermSentences::differentBlocks);
        suite.term("The length of a path is the sum of the lengths of its blocks except the first one.",
                TermSentences::lengthWithoutTheFirst);
        suite.term("A route from one block to another one is the path with the smallest length; of several, the one with "
                + "the fewest blocks; of several, the one in which the first block that is different has the smaller "
                + "number.", TermSentences::bestOfSeveralPaths);
        suite.term("If there is no path, there is no route.", TermSentences::noPathNoRoute);
        suite.term("Whether blocks are shut, occupied or reserved does not matter for routes.",
                TermSentences::busyBlocksDoNotMatter);
    }

    private static void differentBlocks(Checks checks) {
        InterlockingBox circle = Boxes.circle(1, 1, 1);
        for (int from = 0; from < 3; from++) {
            for (int to = 0; to < 3; to++) {
                checks.due(1, circle.paths(from, to), "paths on a circle");
            }
        }
        InterlockingBox eight = Boxes.ones(5);
        eight.addPoint(0, 1, 2);
        eight.addLink(1, 0);
        eight.addPoint(2, 0, 3);
        eight.addLink(3, 4);
        checks.due(1, eight.paths(0, 4), "paths past two circles");
        checks.due(1, eight.paths(1, 4), "paths from one circle to the end");
        checks.due(1, eight.paths(2, 1), "paths from the other circle");
        eight.addLink(4, 2);
        checks.due(1, eight.paths(4, 1), "paths back into the circles");
        checks.due(1, eight.paths(3, 0), "paths that would meet a block again");
    }

    private static void lengthWithoutTheFirst(Checks checks) {
        for (int first = 1; first <= 9; first += 4) {
            for (int last = 1; last <= 9; last += 4) {
                InterlockingBox box = Boxes.row(first, 5, last);
                checks.due(5 + last, box.routeLength(0, 2), "routeLength over three blocks");
                checks.due(last, box.routeLength(1, 2), "routeLength over two blocks");
                checks.due(0, box.routeLength(2, 2), "routeLength of one block");
                checks.due(5 + last, box.routeLengthByPaths(0, 2), "routeLengthByPaths over three blocks");
                box.addTrain(0, 2);
                checks.due(5 + last, box.setRoute(0), "setRoute over three blocks");
            }
        }
    }

    private static void route(Checks checks, InterlockingBox box, int... route) {
        int last = route[route.length - 1];
        for (int i = 0; i < route.length; i++) {
            checks.due(route[i], box.routeBlock(route[0], last, i), "the block at position " + i);
        }
        checks.throwsOnly(Checks.ELEMENT, () -> box.routeBlock(route[0], last, route.length), "the next position");
        checks.due(box.routeLengthByPaths(route[0], last), box.routeLength(route[0], last), "routeLength");
    }

    /** Block 0 leads over 1 to 4 on the left, and over 2 and 3 to 4 on the right. */
    private static InterlockingBox shortAndLong(int length1, int length2, int length3) {
        InterlockingBox box = Boxes.withBlocks(1, length1, length2, length3, 1);
        box.addPoint(0, 1, 2);
        box.addLink(1, 4);
        box.addLink(2, 3);
        box.addLink(3, 4);
        return box;
    }

    private static void bestOfSeveralPaths(Checks checks) {
        route(checks, shortAndLong(4, 2, 1), 0, 2, 3, 4);
        route(checks, shortAndLong(3, 2, 1), 0, 1, 4);
        route(checks, shortAndLong(2, 2, 1), 0, 1, 4);
        route(checks, shortAndLong(9, 7, 1), 0, 2, 3, 4);
        route(checks, shortAndLong(9, 8, 1), 0, 1, 4);
        InterlockingBox fewest = Boxes.withBlocks(1, 1, 2, 1, 1);
        fewest.addPoint(0, 1, 2);
        fewest.addLink(1, 3);
        fewest.addLink(3, 4);
        fewest.addLink(2, 4);
        route(checks, fewest, 0, 2, 4);
        for (boolean isLeftFirst : new boolean[] {true, false}) {
            InterlockingBox first = Boxes.ones(4);
            first.addPoint(0, isLeftFirst ? 1 : 2, isLeftFirst ? 2 : 1);
            first.addLink(1, 3);
            first.addLink(2, 3);
            route(checks, first, 0, 1, 3);
            InterlockingBox later = Boxes.ones(7);
            later.addPoint(0, isLeftFirst ? 1 : 2, isLeftFirst ? 2 : 1);
            later.addPoint(1, isLeftFirst ? 4 : 5, isLeftFirst ? 5 : 4);
            later.addLink(2, 3);
            later.addLink(3, 6);
            later.addLink(4, 6);
            later.addLink(5, 6);
            route(checks, later, 0, 1, 4, 6);
            route(checks, later, 0, 2, 3);
        }
        InterlockingBox ten = Boxes.ones(12);
        ten.addPoint(0, 11, 10);
        ten.addLink(10, 9);
        ten.addLink(11, 9);
        route(checks, ten, 0, 10, 9);
        everyNumbering(checks, new ArrayList<>());
    }

    /** The same line is built with all orders of its blocks, since only the last rule may look at their numbers. */
    private static void everyNumbering(Checks checks, List<Integer> numbers) {
        for (int number = 0; number < 6 && numbers.size() < 6; number++) {
            if (!numbers.contains(number)) {
                numbers.add(number);
                everyNumbering(checks, numbers);
                numbers.remove(numbers.size() - 1);
            }
        }
        if (numbers.size() == 6) {
            int[] n = numbers.stream().mapToInt(number -> number).toArray();
            route(checks, renumbered(n, 9, 1, 1, 1), n[0], n[2], n[4], n[5]);
            route(checks, renumbered(n, 1, 1, 9, 9), n[0], n[1], n[3], n[5]);
            boolean isFirst = n[1] < n[2];
            route(checks, renumbered(n, 1, 3, 3, 1), n[0], isFirst ? n[1] : n[2], isFirst ? n[3] : n[4], n[5]);
            route(checks, renumbered(n, 3, 1, 1, 3), n[0], isFirst ? n[1] : n[2], isFirst ? n[3] : n[4], n[5]);
        }
    }

    /** The first block leads over the second and the fourth to the last one, or over the third and the fifth. */
    private static InterlockingBox renumbered(int[] n, int second, int fourth, int third, int fifth) {
        int[] inOrder = {1, second, third, fourth, fifth, 1};
        int[] lengths = new int[6];
        for (int i = 0; i < 6; i++) {
            lengths[n[i]] = inOrder[i];
        }
        InterlockingBox box = Boxes.withBlocks(lengths);
        box.addPoint(n[0], n[1], n[2]);
        box.addLink(n[1], n[3]);
        box.addLink(n[2], n[4]);
        box.addLink(n[3], n[5]);
        box.addLink(n[4], n[5]);
        return box;
    }

    private static void noPathNoRoute(Checks checks) {
        InterlockingBox box = Boxes.row(1, 1, 1);
        box.addBlock(1);
        box.addTrain(0, 3);
        checks.due(0, box.paths(0, 3), "paths(0, 3)");
        checks.throwsOnly(Checks.ELEMENT, () -> box.routeLength(0, 3), "routeLength(0, 3)");
        checks.throwsOnly(Checks.ELEMENT, () -> box.routeBlock(0, 3, 0), "routeBlock(0, 3, 0)");
        checks.throwsOnly(Checks.REFUSED, () -> box.setRoute(0), "setRoute(0)");
        checks.due('n', box.refusalReason(), "refusalReason()");
        checks.due(false, box.isClear(0), "isClear(0)");
        box.addLink(2, 3);
        checks.due(1, box.paths(0, 3), "paths(0, 3) with a link");
        checks.due(3, box.routeLength(0, 3), "routeLength(0, 3) with a link");
        checks.due(3, box.setRoute(0), "setRoute(0) with a link");
    }

    private static void busyBlocksDoNotMatter(Checks checks) {
        InterlockingBox box = Boxes.diamond(1, 1, 2, 1);
        box.addBlock(1);
        box.addLink(3, 4);
        box.shut(1);
        route(checks, box, 0, 1, 3, 4);
        box.open(1);
        box.addTrain(1, 4);
        route(checks, box, 0, 1, 3, 4);
        box.setRoute(0);
        route(checks, box, 0, 1, 3, 4);
        box.pass(1);
        box.shut(1);
        box.shut(0);
        route(checks, box, 0, 1, 3, 4);
        checks.due(2, box.paths(0, 4), "paths(0, 4)");
        box.addTrain(2, 4);
        checks.throwsOnly(Checks.STATE, () -> box.addTrain(0, 4), "addTrain on a shut block");
        box.open(0);
        box.addTrain(0, 4);
        checks.throwsOnly(Checks.REFUSED, () -> box.setRoute(2), "setRoute, which looks for no way round");
        checks.due(1, box.refusalBlock(), "refusalBlock()");
    }

    private static void addTrains(Suite suite) {
        suite.term("Every train that comes gets a number; the numbers are consecutive, begin with 0, and are not used "
                + "again.", TermSentences::numbersOfTrains);
        suite.term("At most 8 trains are present.", TermSentences::atMostEightTrains);
        suite.term("A train occupies one block, and has a destination, which is another block.",
                TermSentences::blockAndDestination);
        suite.term("A train has a set route or not; initially it has none.", TermSentences::initiallyNoRoute);
        suite.term("The set route of a train is the rest of a route, from the block that the train occupies to its "
                + "destination.", TermSentences::restOfARoute);
    }

    private static void numbersOfTrains(Checks checks) {
        InterlockingBox box = Boxes.row(1, 1);
        for (int i = 0; i < 120; i++) {
            checks.due(i, box.addTrain(0, 1), "addTrain");
            box.setRoute(i);
            box.pass(1);
        }
        InterlockingBox refused = Boxes.ones(4);
        refused.addTrain(0, 3);
        Checks.thrownBy(() -> refused.addTrain(0, 1));
        Checks.thrownBy(() -> Boxes.run(refused, "train 1>3;train 2>3;set 0"));
        checks.due(1, refused.addTrain(1, 3), "addTrain after refused trains");
        refused.undo();
        checks.due(1, refused.addTrain(2, 3), "addTrain after a train that was undone");
        refused.save();
        refused.addTrain(1, 3);
        refused.restore();
        checks.due(2, refused.addTrain(1, 3), "addTrain after restore()");
    }

    private static void atMostEightTrains(Checks checks) {
        InterlockingBox box = Boxes.ones(12);
        for (int i = 0; i < 8; i++) {
            checks.due(i, box.addTrain(i, 11), "addTrain");
        }
        checks.throwsOnly(Checks.STATE, () -> box.addTrain(8, 11), "addTrain as the ninth");
        checks.throwsOnly(Checks.REFUSED, () -> Boxes.run(box, "train 8>11"), "a train as the ninth in a program");
        checks.due(8, box.trains(), "trains()");
        box.addLink(7, 11);
        box.pass(2);
        checks.due(7, box.trains(), "trains() after an arrival");
        checks.due(8, box.addTrain(8, 11), "addTrain after an arrival");
        checks.throwsOnly(Checks.STATE, () -> box.addTrain(9, 11), "addTrain as the ninth again");
    }

    private static void blockAndDestination(Checks checks) {
        InterlockingBox box = Boxes.ones(3);
        checks.throwsOnly(Checks.ARGUMENT, () -> box.addTrain(0, 0), "addTrain(0, 0)");
        checks.throwsOnly(Checks.ARGUMENT, () -> box.addTrain(2, 2), "addTrain(2, 2)");
        box.addTrain(1, 0);
        box.addTrain(2, 1);
        checks.due(1, box.blockOf(0), "blockOf(0)");
        checks.due(0, box.destination(0), "destination(0)");
        checks.due(2, box.blockOf(1), "blockOf(1)");
        checks.due(1, box.destination(1), "destination(1), in which there is a train");
        checks.due("fo0o1", Boxes.blocks(box), "the blocks");
    }

    private static void initiallyNoRoute(Checks checks) {
        InterlockingBox box = Boxes.row(1, 1, 1, 1, 1, 1, 1, 1, 1);
        for (int i = 7; i >= 0; i--) {
            int train = box.addTrain(i, 8);
            checks.due(false, box.hasRoute(train), "hasRoute of a new train");
            checks.due(train, box.queued(train), "queued of a new train");
        }
        InterlockingBox again = Boxes.row(1, 1);
        again.addTrain(0, 1);
        again.setRoute(0);
        again.pass(1);
        again.addTrain(0, 1);
        checks.due(false, again.hasRoute(1), "hasRoute of a new train after one with a set route");
    }

    private static void restOfARoute(Checks checks) {
        InterlockingBox box = Boxes.row(1, 2, 1, 3);
        box.addTrain(0, 3);
        box.setRoute(0);
        String[] lines = {"0@0>1>2>3", "0@0>1>2>3", "0@1>2>3", "0@2>3", "0@2>3", "0@2>3"};
        for (int i = 0; i < lines.length; i++) {
            checks.due(lines[i], Boxes.train(box, 0), "train 0 after " + i + " minutes");
            box.pass(1);
        }
        checks.due(1, box.arrived(), "arrived() after six minutes");
        InterlockingBox later = Boxes.withBlocks(1, 9, 1, 1);
        later.addPoint(0, 1, 2);
        later.addLink(1, 3);
        later.addTrain(0, 3);
        later.setRoute(0);
        later.addLink(2, 3);
        checks.due("0@0>1>3", Boxes.train(later, 0), "train 0, whose route stays set beside a shorter one");
        later.pass(9);
        checks.due("0@1>3", Boxes.train(later, 0), "train 0 on the route that was set");
    }
}
