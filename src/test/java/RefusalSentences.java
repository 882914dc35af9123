/** What "Terms" says of exceptions in general, with each condition for one that the promises name. */
final class RefusalSentences {
    private static final int FULL_LINE = 99;

    private RefusalSentences() {
    }

    static void addTo(Suite suite) {
        suite.term("A method that throws an exception changes nothing, except that run() empties the program buffer and "
                + "records a syntax error or a failed command.", RefusalSentences::changesNothing);
        suite.term("If several conditions for an exception hold, the exception that is listed first is thrown.",
                RefusalSentences::listedFirst);
    }

    /**
     * Train 0 is on its way from block 0 over 2 to 3, train 1 waits for it, trains 2 and 3 are in a deadlock, and train
     * 4 has no way. Block 7 is shut, block 8 is the stem of point 1, and a refusal is recorded.
     */
    private static InterlockingBox busy() {
        InterlockingBox box = Boxes.withBlocks(2, 3, 1, 4, 1, 1, 1, 1, 1);
        box.addPoint(0, 1, 2);
        box.addPoint(8, 6, 7);
        box.addLink(1, 3);
        box.addLink(2, 3);
        box.addLink(4, 5);
        box.addLink(5, 4);
        box.addTrain(0, 3);
        box.addTrain(1, 3);
        box.addTrain(4, 5);
        box.addTrain(5, 4);
        box.addTrain(6, 0);
        box.setRoute(0);
        box.shut(7);
        Checks.thrownBy(() -> box.setRoute(4));
        box.throwPoint(1);
        return Boxes.laden(box);
    }

    private static void refuses(Checks checks, Class<?> kind, Checks.Use... uses) {
        for (int i = 0; i < uses.length; i++) {
            checks.refuses(RefusalSentences::busy, kind, uses[i], "call " + i);
        }
    }

    private static void changesNothing(Checks checks) {
        refuses(checks, Checks.INDEX, box -> box.addPoint(9, 1, 2), box -> box.addLink(0, 9), box -> box.shut(9),
                box -> box.open(9), box -> box.throwPoint(2), box -> box.addTrain(8, 9), box -> box.blockLength(9),
                box -> box.blockState(9), box -> box.trainAt(9), box -> box.liesLeft(2), box -> box.lockedBy(2),
                box -> box.routeLength(9, 0), box -> box.routeLengthByPaths(0, 9), box -> box.routeBlock(0, 9, 0),
                box -> box.paths(9, 9), box -> box.charAt(FULL_LINE), box -> box.charAt(-1));
        refuses(checks, Checks.ARGUMENT, box -> box.addBlock(0), box -> box.addBlock(10), box -> box.addPoint(2, 2, 3),
                box -> box.addLink(3, 3), box -> box.addTrain(8, 8), box -> box.pass(0), box -> box.pass(241),
                box -> box.conflict(1, 1));
        refuses(checks, Checks.STATE, box -> box.addPoint(0, 1, 2), box -> box.addPoint(1, 0, 2),
                box -> box.addLink(0, 1), box -> box.addLink(1, 3), box -> box.shut(7), box -> box.shut(2),
                box -> box.open(0), box -> box.throwPoint(0), box -> box.addTrain(0, 8), box -> box.addTrain(2, 8),
                box -> box.addTrain(7, 8), box -> box.setRoute(0), box -> box.releaseRoute(1));
        refuses(checks, Checks.ELEMENT, box -> box.setRoute(5), box -> box.releaseRoute(5), box -> box.trainAt(8),
                box -> box.lockedBy(1), box -> box.routeLength(3, 0), box -> box.routeLengthByPaths(3, 0),
                box -> box.routeBlock(3, 0, 0), box -> box.routeBlock(0, 3, 3), box -> box.blockOf(5),
                box -> box.destination(5), box -> box.hasRoute(5), box -> box.isClear(5), box -> box.delay(5),
                box -> box.minutesUntilNext(5), box -> box.minutesUntilNext(1), box -> box.minutesUntilArrival(5),
                box -> box.minutesUntilArrival(1), box -> box.minutesUntilArrivalByPassing(5),
                box -> box.minutesUntilArrivalByPassing(1), box -> box.queued(4), box -> box.queued(-1),
                box -> box.waitsFor(5, 0), box -> box.waitsFor(0, 5), box -> box.conflict(5, 0),
                box -> box.conflict(0, 5), box -> box.refusalBlock(), box -> box.writeTrain(5));
        checks.refuses(InterlockingBox::new, Checks.STATE, InterlockingBox::undo, "undo() in a new box");
        checks.refuses(InterlockingBox::new, Checks.STATE, InterlockingBox::restore, "restore() in a new box");
        checks.refuses(InterlockingBox::new, Checks.DIVISION, InterlockingBox::meanDelay, "meanDelay() in a new box");
        checks.refuses(InterlockingBox::new, Checks.DIVISION, InterlockingBox::usedShare, "usedShare() in a new box");
        checks.refuses(RefusalSentences::busy, Checks.REFUSED, box -> box.setRoute(1), "setRoute(1)", Aspect.REFUSAL);
        runChangesTheBuffer(checks);
    }

    /** The buffer holds "wai" at first, which is no program; with the rest of the text it is one that fails. */
    private static void runChangesTheBuffer(Checks checks) {
        Checks.Recipe busy = RefusalSentences::busy;
        checks.refuses(busy, Checks.ARGUMENT, InterlockingBox::run, "run() of wai", Aspect.BUFFER, Aspect.ERROR);
        InterlockingBox wrong = busy.make();
        Checks.thrownBy(wrong::run);
        checks.due(3, wrong.errorPosition(), "errorPosition() of wai");
        checks.due(1, wrong.failedCommand(), "failedCommand() of the program before it");
        checks.due(1, wrong.type('w'), "type after run() of wai");
        Checks.Recipe failing = () -> {
            InterlockingBox box = busy.make();
            Boxes.type(box, "t;block 1;wait 9;free 0;throw 0;shut 9;open 7;train 9>0;set 9");
            return box;
        };
        checks.throwsOnly(Checks.STATE, failing::make, "type as the sixty-first");
        Checks.Recipe shorter = () -> {
            InterlockingBox box = busy.make();
            Boxes.type(box, "t;block 1;link 9>0;shut 9;open 7;throw 1;set 9");
            return box;
        };
        checks.refuses(shorter, Checks.REFUSED, InterlockingBox::run, "run()", Aspect.BUFFER, Aspect.FAILED);
        InterlockingBox failed = shorter.make();
        Checks.thrownBy(failed::run);
        checks.due(6, failed.failedCommand(), "failedCommand()");
        checks.due(5, failed.errorPosition(), "errorPosition() of the text before it");
        checks.due(1, failed.type('w'), "type after run()");
    }

    /** As many blocks, points and trains as there can be; block 0 is a stem, and block 8 has a link. */
    private static InterlockingBox full() {
        InterlockingBox box = Boxes.ones(12);
        for (int i = 0; i < 8; i++) {
            box.addPoint(i, 10, 11);
            box.addTrain(i, 9);
        }
        box.addLink(8, 9);
        return box;
    }

    private static void listedFirst(Checks checks) {
        Checks.Recipe full = RefusalSentences::full;
        checks.refuses(full, Checks.ARGUMENT, box -> box.addBlock(0), "addBlock(0) with 12 blocks");
        checks.refuses(full, Checks.INDEX, box -> box.addPoint(12, 12, 12), "addPoint of one block that is not there");
        checks.refuses(full, Checks.INDEX, box -> box.addPoint(0, 0, 12), "addPoint with same blocks and no block");
        checks.refuses(full, Checks.INDEX, box -> box.addPoint(0, 1, -1), "addPoint of a stem without a branch");
        checks.refuses(full, Checks.ARGUMENT, box -> box.addPoint(9, 9, 9), "addPoint with 8 points and same blocks");
        checks.refuses(full, Checks.ARGUMENT, box -> box.addPoint(0, 1, 1), "addPoint of a stem with same branches");
        checks.refuses(full, Checks.ARGUMENT, box -> box.addPoint(8, 8, 1), "addPoint of a linked block to itself");
        checks.refuses(full, Checks.INDEX, box -> box.addLink(12, 12), "addLink of one block that is not there");
        checks.refuses(full, Checks.INDEX, box -> box.addLink(0, 12), "addLink from a stem to no block");
        checks.refuses(full, Checks.INDEX, box -> box.addLink(8, -1), "addLink from a linked block to no block");
        checks.refuses(full, Checks.ARGUMENT, box -> box.addLink(0, 0), "addLink from a stem to itself");
        checks.refuses(full, Checks.ARGUMENT, box -> box.addLink(8, 8), "addLink from a linked block to itself");
        checks.refuses(full, Checks.INDEX, box -> box.addTrain(12, 12), "addTrain on one block that is not there");
        checks.refuses(full, Checks.INDEX, box -> box.addTrain(0, 12), "addTrain on an occupied block to no block");
        checks.refuses(full, Checks.INDEX, box -> box.addTrain(-1, 0), "addTrain as the ninth on no block");
        checks.refuses(full, Checks.ARGUMENT, box -> box.addTrain(0, 0), "addTrain on an occupied block to itself");
        checks.refuses(full, Checks.ARGUMENT, box -> box.addTrain(9, 9), "addTrain as the ninth to its own block");
        checks.refuses(full, Checks.INDEX, box -> box.trainAt(12), "trainAt of no block, where there is no train");
        checks.refuses(full, Checks.INDEX, box -> box.lockedBy(8), "lockedBy of no point, which is not locked");
        checks.refuses(full, Checks.INDEX, box -> box.routeLength(12, 0), "routeLength from no block");
        checks.refuses(full, Checks.INDEX, box -> box.routeLengthByPaths(9, 12), "routeLengthByPaths to no block");
        checks.refuses(full, Checks.INDEX, box -> box.routeBlock(9, 12, -1), "routeBlock at no position to no block");
        checks.refuses(full, Checks.ELEMENT, box -> box.conflict(8, 8), "conflict of one train that is not there");
        checks.refuses(RefusalSentences::busy, Checks.STATE, box -> box.setRoute(0), "setRoute of a set route");
        InterlockingBox box = full();
        checks.due(0, Boxes.errorIn(box, "?set 9"), "errorPosition() of a text");
        checks.due(6, Boxes.errorIn(box, "set 99?"), "errorPosition() of a text");
        checks.throwsOnly(Checks.ELEMENT, box::failedCommand, "failedCommand() of a text that is no program");
    }
}
