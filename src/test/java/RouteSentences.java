/** Promises 18 to 21: routes and paths, each sentence at its boundaries. */
final class RouteSentences {
    /** A question about two blocks. */
    private interface Way {
        Object of(InterlockingBox box, int from, int to);
    }

    private RouteSentences() {
    }

    static void addTo(Suite suite) {
        addLengths(suite);
        addLengthsByPaths(suite);
        addBlocksOfRoutes(suite);
        addPaths(suite);
    }

    private static void addLengths(Suite suite) {
        Way length = InterlockingBox::routeLength;
        suite.promise(18, "Returns the length of the route from one block to another one, by Dijkstra's algorithm.",
                checks -> lengths(checks, length));
        suite.promise(18, "Returns the length, 0 if both are the same.", checks -> sameBlock(checks, length, 0));
        suite.promise(18, "Throws `IndexOutOfBoundsException` if one of the blocks does not exist",
                checks -> noSuchBlocks(checks, length));
        suite.promise(18, "Throws `NoSuchElementException` if there is no route", checks -> noRoute(checks, length));
    }

    private static void addLengthsByPaths(Suite suite) {
        Way length = InterlockingBox::routeLengthByPaths;
        suite.promise(19, "Returns the same length, by trying all paths.", checks -> lengths(checks, length));
        suite.promise(19, "Returns the length, 0 if both are the same.", checks -> sameBlock(checks, length, 0));
        suite.promise(19, "Throws `IndexOutOfBoundsException` if one of the blocks does not exist",
                checks -> noSuchBlocks(checks, length));
        suite.promise(19, "Throws `NoSuchElementException` if there is no route", checks -> noRoute(checks, length));
    }

    private static void addBlocksOfRoutes(Suite suite) {
        suite.promise(20, "Returns the block at a position of the route from one block to another one.",
                RouteSentences::blocksOfARoute);
        suite.promise(20, "`position`: the position, counted from 0 for the first block", RouteSentences::positions);
        suite.promise(20, "Throws `IndexOutOfBoundsException` if one of the blocks does not exist",
                checks -> noSuchBlocks(checks, (box, from, to) -> box.routeBlock(from, to, 0)));
        suite.promise(20, "Throws `NoSuchElementException` if there is no route, or no such position",
                RouteSentences::noRouteOrPosition);
    }

    private static void addPaths(Suite suite) {
        suite.promise(21, "Returns the number of paths from one block to another one.", RouteSentences::numbersOfPaths);
        suite.promise(21, "Returns the number of paths, 1 if both are the same.",
                checks -> sameBlock(checks, InterlockingBox::paths, 1));
        suite.promise(21, "Throws `IndexOutOfBoundsException` if one of the blocks does not exist",
                checks -> noSuchBlocks(checks, InterlockingBox::paths));
    }

    private static void lengths(Checks checks, Way length) {
        InterlockingBox two = Boxes.row(9, 1);
        checks.due(1, length.of(two, 0, 1), "the length of a shortest route");
        InterlockingBox longest = Boxes.row(9, 9, 9, 9, 9, 9, 9, 9, 9, 9, 9, 9);
        checks.due(99, length.of(longest, 0, 11), "the length of a route over all blocks");
        checks.due(90, length.of(longest, 1, 11), "the length of a route over all blocks but one");
        checks.due(90, length.of(longest, 0, 10), "the length of a route over all blocks but one");
        InterlockingBox right = Boxes.diamond(9, 5, 4, 7);
        checks.due(11, length.of(right, 0, 3), "the length over the shorter right branch");
        InterlockingBox left = Boxes.diamond(9, 4, 5, 7);
        checks.due(11, length.of(left, 0, 3), "the length over the shorter left branch");
        InterlockingBox even = Boxes.diamond(9, 4, 4, 7);
        checks.due(11, length.of(even, 0, 3), "the length over either branch");
        checks.due(4, length.of(even, 0, 1), "the length to the left branch");
        checks.due(4, length.of(even, 0, 2), "the length to the right branch");
        InterlockingBox detour = Boxes.withBlocks(1, 9, 1, 1, 1, 1);
        detour.addPoint(0, 1, 2);
        detour.addLink(2, 3);
        detour.addLink(3, 4);
        detour.addPoint(4, 1, 5);
        detour.addLink(1, 5);
        checks.due(4, length.of(detour, 0, 5), "the length of a route with more blocks");
        checks.due(9, length.of(detour, 0, 1), "the length past a detour of the same end");
    }

    private static void sameBlock(Checks checks, Way way, int want) {
        checks.due(want, way.of(Boxes.withBlocks(9), 0, 0), "the answer for the only block");
        InterlockingBox circle = Boxes.circle(9, 9, 9);
        for (int block = 0; block < 3; block++) {
            checks.due(want, way.of(circle, block, block), "the answer for a block on a circle");
        }
        InterlockingBox full = Boxes.ones(12);
        checks.due(want, way.of(full, 11, 11), "the answer for the last block");
        InterlockingBox pair = Boxes.circle(2, 2);
        checks.due(want, way.of(pair, 0, 0), "the answer for a block of two that lead to each other");
    }

    private static void noSuchBlocks(Checks checks, Way way) {
        Checks.Recipe circle = () -> Boxes.laden(Boxes.circle(1, 1));
        int[] outside = Checks.outside(2);
        checks.refusesEach(circle, Checks.INDEX, outside, (box, n) -> way.of(box, n, 1), "the call from a block");
        checks.refusesEach(circle, Checks.INDEX, outside, (box, n) -> way.of(box, 0, n), "the call to a block");
        checks.refusesEach(circle, Checks.INDEX, outside, (box, n) -> way.of(box, n, n), "the call for one block");
        checks.answers(() -> way.of(circle.make(), 0, 1), "the call to the last block");
        checks.answers(() -> way.of(circle.make(), 1, 0), "the call from the last block");
        Checks.Recipe full = () -> Boxes.laden(Boxes.row(1, 1, 1, 1, 1, 1, 1, 1, 1, 1, 1, 1));
        checks.refuses(full, Checks.INDEX, box -> way.of(box, 0, 12), "the call to block 12");
        checks.refuses(full, Checks.INDEX, box -> way.of(box, 12, 0), "the call from block 12");
        checks.answers(() -> way.of(full.make(), 0, 11), "the call to block 11");
        checks.refuses(() -> Boxes.laden(Boxes.ones(0)), Checks.INDEX, box -> way.of(box, 0, 0), "the call of no block");
    }

    private static void noRoute(Checks checks, Way way) {
        Checks.Recipe row = () -> Boxes.laden(Boxes.row(1, 1, 1));
        checks.refuses(row, Checks.ELEMENT, box -> way.of(box, 1, 0), "the call back along a link");
        checks.refuses(row, Checks.ELEMENT, box -> way.of(box, 2, 0), "the call from a block without exits");
        checks.answers(() -> way.of(row.make(), 0, 2), "the call along the row");
        Checks.Recipe gap = () -> {
            InterlockingBox box = Boxes.ones(12);
            for (int i = 0; i < 11; i++) {
                if (i != 6) {
                    box.addLink(i, i + 1);
                }
            }
            return Boxes.laden(box);
        };
        checks.refuses(gap, Checks.ELEMENT, box -> way.of(box, 0, 11), "the call over a gap");
        checks.refuses(gap, Checks.ELEMENT, box -> way.of(box, 6, 7), "the call over nothing but the gap");
        checks.answers(() -> way.of(gap.make(), 0, 6), "the call up to the gap");
        checks.answers(() -> way.of(gap.make(), 7, 11), "the call from behind the gap");
        InterlockingBox closed = gap.make();
        closed.addLink(6, 7);
        checks.answers(() -> way.of(closed, 0, 11), "the call over the gap that was closed");
        closed.undo();
        checks.throwsOnly(Checks.ELEMENT, () -> way.of(closed, 0, 11), "the call after undo()");
        Checks.Recipe away = () -> {
            InterlockingBox box = Boxes.ones(4);
            box.addPoint(0, 1, 2);
            box.addLink(1, 0);
            box.addLink(2, 0);
            return Boxes.laden(box);
        };
        checks.refuses(away, Checks.ELEMENT, box -> way.of(box, 0, 3), "the call out of a circle");
    }

    private static void blocksOfARoute(Checks checks) {
        InterlockingBox box = Boxes.withBlocks(1, 1, 1, 1, 1);
        box.addPoint(4, 2, 0);
        box.addLink(2, 3);
        box.addLink(0, 1);
        box.addLink(1, 3);
        int[] route = {4, 2, 3};
        for (int i = 0; i < route.length; i++) {
            checks.due(route[i], box.routeBlock(4, 3, i), "the block at position " + i);
        }
    }

    private static void positions(Checks checks) {
        InterlockingBox longest = Boxes.row(1, 1, 1, 1, 1, 1, 1, 1, 1, 1, 1, 1);
        for (int i = 0; i < 12; i++) {
            checks.due(i, longest.routeBlock(0, 11, i), "the block at position " + i);
        }
        InterlockingBox two = Boxes.row(1, 1);
        checks.due(0, two.routeBlock(0, 1, 0), "the first block");
        checks.due(1, two.routeBlock(0, 1, 1), "the last block");
        checks.due(1, two.routeBlock(1, 1, 0), "the only block, if both are the same");
    }

    private static void noRouteOrPosition(Checks checks) {
        noRoute(checks, (box, from, to) -> box.routeBlock(from, to, 0));
        Checks.Recipe circle = () -> Boxes.laden(Boxes.circle(1, 1, 1, 1));
        int[] outside = Checks.outside(3);
        checks.refusesEach(circle, Checks.ELEMENT, outside, (box, n) -> box.routeBlock(1, 3, n), "a position");
        int[] outsideOne = Checks.outside(1);
        checks.refusesEach(circle, Checks.ELEMENT, outsideOne, (box, n) -> box.routeBlock(1, 1, n), "a position");
        int[] outsideAll = Checks.outside(4);
        checks.refusesEach(circle, Checks.ELEMENT, outsideAll, (box, n) -> box.routeBlock(1, 0, n), "a position");
        checks.due(3, circle.make().routeBlock(1, 3, 2), "the block at the last position");
        Checks.Recipe full = () -> Boxes.laden(Boxes.circle(1, 1, 1, 1, 1, 1, 1, 1, 1, 1, 1, 1));
        int[] outsideFull = Checks.outside(12);
        checks.refusesEach(full, Checks.ELEMENT, outsideFull, (box, n) -> box.routeBlock(1, 0, n), "a position");
        checks.due(0, full.make().routeBlock(1, 0, 11), "the block at the last position of all");
    }

    private static void numbersOfPaths(Checks checks) {
        InterlockingBox none = Boxes.row(1, 1);
        checks.due(0, none.paths(1, 0), "paths(1, 0)");
        checks.due(1, none.paths(0, 1), "paths(0, 1)");
        InterlockingBox diamond = Boxes.diamond(1, 1, 1, 1);
        checks.due(2, diamond.paths(0, 3), "paths(0, 3)");
        checks.due(1, diamond.paths(0, 2), "paths(0, 2)");
        diamond.addPoint(3, 0, 2);
        checks.due(2, diamond.paths(0, 3), "paths(0, 3) with ways back");
        checks.due(2, diamond.paths(3, 2), "paths(3, 2)");
        checks.due(1, diamond.paths(3, 1), "paths(3, 1)");
        checks.due(2, diamond.paths(1, 2), "paths(1, 2)");
        InterlockingBox ladder = Boxes.ones(12);
        for (int i = 0; i < 8; i++) {
            ladder.addPoint(i, i + 1, i + 2);
        }
        ladder.addLink(8, 9);
        ladder.addLink(9, 10);
        ladder.addLink(10, 11);
        int[] counts = {1, 1, 2, 3, 5, 8, 13, 21, 34, 55, 55, 55};
        for (int i = 0; i < 12; i++) {
            checks.due(counts[i], ladder.paths(0, i), "paths over points to block " + i);
        }
        checks.due(0, ladder.paths(11, 0), "paths(11, 0)");
    }
}
