/** Promises 18 to 21: routes and paths. */
public final class RouteTest {
    private static final Checks CHECKS = new Checks();

    public static void main(String[] args) {
        lengths();
        ties();
        routeBlock();
        paths();
        busyBlocks();
        CHECKS.end();
    }

    private static void lengths() {
        InterlockingBox box = Boxes.diamond(9, 5, 3, 4);
        CHECKS.promise(18);
        CHECKS.due(7, box.routeLength(0, 3), "routeLength(0, 3)");
        CHECKS.due(5, box.routeLength(0, 1), "routeLength(0, 1)");
        CHECKS.due(0, box.routeLength(2, 2), "routeLength(2, 2)");
        CHECKS.throwsOnly(Checks.ELEMENT, () -> box.routeLength(3, 0), "routeLength(3, 0)");
        CHECKS.throwsOnly(Checks.INDEX, () -> box.routeLength(0, 4), "routeLength(0, 4)");
        CHECKS.throwsOnly(Checks.INDEX, () -> box.routeLength(-1, 0), "routeLength(-1, 0)");
        CHECKS.throwsOnly(Checks.INDEX, () -> box.routeLength(4, 4), "routeLength(4, 4)");
        CHECKS.promise(19);
        CHECKS.due(7, box.routeLengthByPaths(0, 3), "routeLengthByPaths(0, 3)");
        CHECKS.due(5, box.routeLengthByPaths(0, 1), "routeLengthByPaths(0, 1)");
        CHECKS.due(0, box.routeLengthByPaths(2, 2), "routeLengthByPaths(2, 2)");
        CHECKS.throwsOnly(Checks.ELEMENT, () -> box.routeLengthByPaths(3, 0), "routeLengthByPaths(3, 0)");
        CHECKS.throwsOnly(Checks.INDEX, () -> box.routeLengthByPaths(0, 4), "routeLengthByPaths(0, 4)");
        CHECKS.throwsOnly(Checks.INDEX, () -> box.routeLengthByPaths(-1, 0), "routeLengthByPaths(-1, 0)");
        CHECKS.throwsOnly(Checks.INDEX, () -> box.routeLengthByPaths(4, 4), "routeLengthByPaths(4, 4)");
        InterlockingBox back = Boxes.circle(4, 5, 6);
        CHECKS.promise(18);
        CHECKS.due(10, back.routeLength(1, 0), "routeLength(1, 0)");
        CHECKS.due(9, back.routeLength(2, 1), "routeLength(2, 1) over block 0");
        CHECKS.promise(19);
        CHECKS.due(10, back.routeLengthByPaths(1, 0), "routeLengthByPaths(1, 0)");
        CHECKS.due(9, back.routeLengthByPaths(2, 1), "routeLengthByPaths(2, 1) over block 0");
        InterlockingBox around = Boxes.circle(9, 9, 9, 9, 9, 9, 9, 9, 9, 9, 9, 9);
        CHECKS.due(99, around.routeLength(0, 11), "routeLength over all blocks");
        CHECKS.due(99, around.routeLengthByPaths(0, 11), "routeLengthByPaths over all blocks");
    }

    /** Of paths of one length the one with the fewest blocks, then the one with the smaller first difference. */
    private static void ties() {
        CHECKS.promise(20);
        InterlockingBox fewest = Boxes.withBlocks(1, 1, 2, 1, 1);
        fewest.addPoint(0, 1, 2);
        fewest.addLink(1, 3);
        fewest.addLink(3, 4);
        fewest.addLink(2, 4);
        CHECKS.due(2, fewest.routeBlock(0, 4, 1), "routeBlock on the path with the fewest blocks");
        CHECKS.due(3, fewest.routeLength(0, 4), "routeLength(0, 4)");
        InterlockingBox even = Boxes.withBlocks(1, 1, 1, 1);
        even.addPoint(0, 2, 1);
        even.addLink(1, 3);
        even.addLink(2, 3);
        CHECKS.due(1, even.routeBlock(0, 3, 1), "routeBlock where the right branch has the smaller number");
        InterlockingBox late = Boxes.withBlocks(1, 1, 1, 1, 1, 1, 1);
        late.addPoint(0, 1, 2);
        late.addPoint(1, 5, 6);
        late.addPoint(2, 3, 6);
        late.addLink(3, 4);
        late.addLink(5, 4);
        late.addLink(6, 4);
        CHECKS.due(1, late.routeBlock(0, 4, 1), "routeBlock at the first difference");
        CHECKS.due(5, late.routeBlock(0, 4, 2), "routeBlock at the second difference");
    }

    private static void routeBlock() {
        CHECKS.promise(20);
        InterlockingBox box = Boxes.row(1, 1, 1, 1);
        CHECKS.due(0, box.routeBlock(0, 2, 0), "routeBlock(0, 2, 0)");
        CHECKS.due(2, box.routeBlock(0, 2, 2), "routeBlock(0, 2, 2)");
        CHECKS.due(1, box.routeBlock(1, 1, 0), "routeBlock(1, 1, 0)");
        CHECKS.throwsOnly(Checks.ELEMENT, () -> box.routeBlock(0, 2, 3), "routeBlock(0, 2, 3)");
        CHECKS.throwsOnly(Checks.ELEMENT, () -> box.routeBlock(0, 2, -1), "routeBlock(0, 2, -1)");
        CHECKS.throwsOnly(Checks.ELEMENT, () -> box.routeBlock(1, 1, 1), "routeBlock(1, 1, 1)");
        CHECKS.throwsOnly(Checks.ELEMENT, () -> box.routeBlock(0, 2, Integer.MAX_VALUE), "a great position");
        CHECKS.throwsOnly(Checks.ELEMENT, () -> box.routeBlock(3, 0, 0), "routeBlock(3, 0, 0)");
        CHECKS.throwsOnly(Checks.INDEX, () -> box.routeBlock(0, 4, -1), "routeBlock(0, 4, -1)");
        CHECKS.throwsOnly(Checks.INDEX, () -> box.routeBlock(-1, 0, 0), "routeBlock(-1, 0, 0)");
    }

    private static void paths() {
        CHECKS.promise(21);
        InterlockingBox box = Boxes.diamond(1, 1, 1, 1);
        CHECKS.due(2, box.paths(0, 3), "paths(0, 3)");
        CHECKS.due(1, box.paths(1, 3), "paths(1, 3)");
        CHECKS.due(0, box.paths(1, 2), "paths(1, 2)");
        CHECKS.due(1, box.paths(3, 3), "paths(3, 3)");
        CHECKS.throwsOnly(Checks.INDEX, () -> box.paths(4, 4), "paths(4, 4)");
        CHECKS.throwsOnly(Checks.INDEX, () -> box.paths(0, -1), "paths(0, -1)");
        CHECKS.throwsOnly(Checks.INDEX, () -> box.paths(-1, 0), "paths(-1, 0)");
        CHECKS.throwsOnly(Checks.INDEX, () -> box.paths(4, 0), "paths(4, 0)");
        box.addPoint(3, 0, 1);
        CHECKS.due(1, box.paths(3, 2), "paths(3, 2) with a circle beside it");
        CHECKS.due(1, box.paths(3, 3), "paths(3, 3) on a circle");
        CHECKS.due(2, box.paths(3, 1), "paths(3, 1)");
        InterlockingBox ladder = Boxes.withBlocks(1, 1, 1, 1, 1, 1, 1, 1, 1, 1);
        for (int i = 0; i < 8; i++) {
            ladder.addPoint(i, i + 1, i + 2);
        }
        ladder.addLink(8, 9);
        CHECKS.due(55, ladder.paths(0, 9), "paths over eight points");
        CHECKS.due(5, ladder.routeLength(0, 9), "routeLength over eight points");
        CHECKS.due(5, ladder.routeLengthByPaths(0, 9), "routeLengthByPaths over eight points");
    }

    private static void busyBlocks() {
        CHECKS.promise(18);
        InterlockingBox box = Boxes.row(1, 1, 1, 1);
        box.addTrain(1, 3);
        box.setRoute(0);
        box.shut(0);
        CHECKS.due(3, box.routeLength(0, 3), "routeLength over shut, occupied and reserved blocks");
        CHECKS.due(3, box.routeLengthByPaths(0, 3), "routeLengthByPaths over the same");
        CHECKS.due(2, box.routeBlock(0, 3, 2), "routeBlock over the same");
        CHECKS.due(1, box.paths(0, 3), "paths over the same");
    }
}
