/** Promises 33 to 40: waiting, deadlocks, conflicts and refusals, each sentence at its boundaries. */
final class WaitingSentences {
    /** A question about all trains. */
    private interface Count {
        int of(InterlockingBox box);
    }

    private WaitingSentences() {
    }

    static void addTo(Suite suite) {
        addWaiting(suite);
        addDeadlocks(suite);
        addConflicts(suite);
        addNumbersWithoutConflict(suite);
        addRefusals(suite);
    }

    /** Trains 0 and 1 stand before block 2, train 2 beside; block 3 is the destination of all. */
    private static InterlockingBox junction() {
        InterlockingBox box = Boxes.ones(5);
        box.addLink(0, 2);
        box.addLink(1, 2);
        box.addLink(2, 3);
        box.addTrain(0, 3);
        box.addTrain(1, 3);
        box.addTrain(4, 3);
        return Boxes.laden(box);
    }

    private static void addWaiting(Suite suite) {
        suite.promise(33, "Returns whether a train waits for another one.", WaitingSentences::waits);
        suite.promise(33, "`other`: the other train, which may be the same", WaitingSentences::waitsForItself);
        suite.promise(33, "Returns true if it waits, false also if it has a set route or both are the same.",
                WaitingSentences::waitsWithSetRoute);
        suite.promise(33, "Throws `NoSuchElementException` if there is no such train, for either",
                checks -> noneOfEither(checks, InterlockingBox::waitsFor));
    }

    private static void waits(Checks checks) {
        InterlockingBox box = junction();
        checks.due(false, box.waitsFor(0, 1), "waitsFor(0, 1) with a common way that is free");
        box.setRoute(1);
        checks.due(true, box.waitsFor(0, 1), "waitsFor(0, 1) with a reserved way");
        checks.due(false, box.waitsFor(2, 1), "waitsFor(2, 1) without a route");
        box.pass(1);
        checks.due(true, box.waitsFor(0, 1), "waitsFor(0, 1) with an occupied way");
        box.releaseRoute(1);
        checks.due(true, box.waitsFor(0, 1), "waitsFor(0, 1) with a released way");
        checks.due(false, box.waitsFor(1, 0), "waitsFor(1, 0), which is behind");
    }

    private static void waitsForItself(Checks checks) {
        InterlockingBox circle = Boxes.circle(1, 1);
        circle.addTrain(0, 1);
        checks.due(false, circle.waitsFor(0, 0), "waitsFor(0, 0)");
        circle.addTrain(1, 0);
        checks.due(false, circle.waitsFor(1, 1), "waitsFor(1, 1)");
        checks.due(true, circle.waitsFor(0, 1), "waitsFor(0, 1)");
        checks.due(true, circle.waitsFor(1, 0), "waitsFor(1, 0)");
    }

    private static void waitsWithSetRoute(Checks checks) {
        InterlockingBox box = Boxes.row(1, 1, 1, 1);
        box.addTrain(0, 2);
        checks.due(false, box.waitsFor(0, 0), "waitsFor(0, 0)");
        box.setRoute(0);
        checks.due(false, box.waitsFor(0, 0), "waitsFor(0, 0) with a set route");
        box.addTrain(3, 0);
        checks.due(false, box.waitsFor(0, 1), "waitsFor(0, 1) with a set route");
        InterlockingBox set = junction();
        set.setRoute(0);
        checks.due(false, set.waitsFor(0, 1), "waitsFor(0, 1) with a set route");
        checks.due(true, set.waitsFor(1, 0), "waitsFor(1, 0) without a set route");
        set.releaseRoute(0);
        checks.due(false, set.waitsFor(1, 0), "waitsFor(1, 0) when it is released");
    }

    private interface Pair {
        Object of(InterlockingBox box, int train, int other);
    }

    private static void noneOfEither(Checks checks, Pair pair) {
        int[] others = Checks.outside(3);
        Checks.Recipe junction = WaitingSentences::junction;
        checks.refusesEach(junction, Checks.ELEMENT, others, (box, n) -> pair.of(box, n, 1), "the call of a train");
        checks.refusesEach(junction, Checks.ELEMENT, others, (box, n) -> pair.of(box, 1, n), "the call of another");
        checks.refusesEach(junction, Checks.ELEMENT, others, (box, n) -> pair.of(box, n, n), "the call of the same");
        checks.answers(() -> pair.of(junction(), 0, 2), "the call of the first and the last");
        checks.answers(() -> pair.of(junction(), 2, 0), "the call of the last and the first");
        Checks.Recipe arrived = () -> {
            InterlockingBox box = junction();
            box.setRoute(0);
            box.pass(2);
            return box;
        };
        checks.refuses(arrived, Checks.ELEMENT, box -> pair.of(box, 0, 1), "the call of one that arrived");
        checks.refuses(arrived, Checks.ELEMENT, box -> pair.of(box, 1, 0), "the call with one that arrived");
        checks.answers(() -> pair.of(arrived.make(), 1, 2), "the call of those that are present");
    }

    private static void addDeadlocks(Suite suite) {
        suite.promise(34, "Returns the number of trains that belong to a deadlock, by a depth-first search for strongly "
                + "connected sets.", checks -> deadlocks(checks, InterlockingBox::deadlocked));
        suite.promise(35, "Returns the same number, by computing for all pairs of trains whether one waits for the other "
                + "one directly or through others.", checks -> deadlocks(checks, InterlockingBox::deadlockedByPairs));
    }

    /** So many trains in a circle of so many blocks, each one on its way to the block before it. */
    private static InterlockingBox circle(int trains, int blocks) {
        int[] lengths = new int[blocks];
        java.util.Arrays.fill(lengths, 1);
        InterlockingBox box = Boxes.circle(lengths);
        for (int i = 0; i < trains; i++) {
            box.addTrain(i, (i + blocks - 1) % blocks);
        }
        return box;
    }

    private static void deadlocks(Checks checks, Count count) {
        checks.due(0, count.of(new InterlockingBox()), "the number of no trains");
        checks.due(0, count.of(circle(1, 2)), "the number of one train");
        for (int trains = 2; trains <= 8; trains++) {
            checks.due(trains, count.of(circle(trains, 8)), "the number of trains in a circle");
            checks.due(trains, count.of(circle(trains, 12)), "the number of trains in a wider circle");
        }
        InterlockingBox pairs = Boxes.ones(8);
        for (int i = 0; i < 8; i += 2) {
            pairs.addLink(i, i + 1);
            pairs.addLink(i + 1, i);
            pairs.addTrain(i, i + 1);
            checks.due(i, count.of(pairs), "the number of trains with one that is free");
            pairs.addTrain(i + 1, i);
            checks.due(i + 2, count.of(pairs), "the number of trains in pairs");
        }
        InterlockingBox row = Boxes.row(1, 1, 1, 1, 1, 1, 1, 1, 1);
        for (int i = 0; i < 8; i++) {
            row.addTrain(7 - i, 8);
        }
        checks.due(0, count.of(row), "the number of trains in a row");
        InterlockingBox next = Boxes.circle(1, 1, 1, 1, 1, 1, 1, 1);
        for (int i = 0; i < 8; i++) {
            checks.due(0, count.of(next), "the number of trains before the circle closes");
            next.addTrain(i * 3 % 8, (i * 3 + 1) % 8);
        }
        checks.due(8, count.of(next), "the number of trains when the circle closes");
        next.undo();
        checks.due(0, count.of(next), "the number of trains after undo()");
    }

    private static void addConflicts(Suite suite) {
        suite.promise(36, "Returns whether two different trains conflict.", WaitingSentences::conflicts);
        suite.promise(36, "Returns true if they conflict.", WaitingSentences::conflictsBothWays);
        suite.promise(36, "Throws `NoSuchElementException` if there is no such train, for either",
                checks -> noneOfEither(checks, InterlockingBox::conflict));
        suite.promise(36, "Throws `IllegalArgumentException` if both are the same", WaitingSentences::conflictWithItself);
    }

    private static void conflicts(Checks checks) {
        InterlockingBox box = junction();
        checks.due(true, box.conflict(0, 1), "conflict of trains with a common way");
        checks.due(false, box.conflict(0, 2), "conflict with a train without a route");
        InterlockingBox last = Boxes.ones(4);
        last.addLink(0, 2);
        last.addLink(1, 2);
        last.addTrain(0, 2);
        last.addTrain(1, 2);
        checks.due(true, last.conflict(0, 1), "conflict of trains with nothing in common but the destination");
        last.undo();
        last.addTrain(1, 3);
        checks.due(false, last.conflict(0, 1), "conflict with a train without a route to its own destination");
        InterlockingBox first = Boxes.row(1, 1, 1, 1);
        first.addTrain(0, 1);
        first.addTrain(1, 2);
        checks.due(false, first.conflict(0, 1), "conflict with a train in the destination");
        first.undo();
        first.addTrain(2, 3);
        checks.due(false, first.conflict(0, 1), "conflict of ways apart");
    }

    private static void conflictsBothWays(Checks checks) {
        InterlockingBox circle = circle(8, 8);
        for (int i = 0; i < 8; i++) {
            for (int j = 0; j < 8; j++) {
                int one = i;
                int two = j;
                Object want = i == j ? Checks.ARGUMENT : (Object) true;
                checks.due(want, Checks.outcome(() -> circle.conflict(one, two)), "conflict of " + i + " and " + j);
            }
        }
        InterlockingBox box = junction();
        box.setRoute(0);
        checks.due(true, box.conflict(1, 0), "conflict(1, 0) if one is set");
        checks.due(true, box.conflict(0, 1), "conflict(0, 1) if one is set");
    }

    private static void conflictWithItself(Checks checks) {
        int[] all = {0, 1, 2};
        Checks.NumberedUse same = (box, n) -> box.conflict(n, n);
        checks.refusesEach(WaitingSentences::junction, Checks.ARGUMENT, all, same, "conflict with itself");
        checks.due(false, junction().conflict(1, 2), "conflict(1, 2)");
    }

    private static void addNumbersWithoutConflict(Suite suite) {
        suite.promise(37, "Returns the greatest number of trains of which no two conflict, by a recursion that takes or "
                + "leaves one train after the other.", checks -> most(checks, InterlockingBox::mostWithoutConflict));
        suite.promise(38, "Returns the same number, by looking at all sets of trains.",
                checks -> most(checks, InterlockingBox::mostWithoutConflictBySets));
    }

    private static void most(Checks checks, Count count) {
        checks.due(0, count.of(new InterlockingBox()), "the number of no trains");
        checks.due(1, count.of(circle(1, 12)), "the number of one train");
        for (int trains = 2; trains <= 8; trains++) {
            checks.due(1, count.of(circle(trains, 12)), "the number of trains that all conflict");
            InterlockingBox apart = Boxes.circle(1, 1, 1, 1, 1, 1, 1, 1);
            for (int i = 0; i < trains; i++) {
                apart.addTrain(i, (i + 1) % 8);
            }
            checks.due(trains, count.of(apart), "the number of trains of which none conflict");
        }
        InterlockingBox halves = Boxes.ones(12);
        for (int i = 0; i < 8; i++) {
            halves.addLink(i, 8 + i / 2);
            halves.addTrain(i, 8 + i / 2);
            checks.due(1 + i / 2, count.of(halves), "the number of trains that conflict in pairs");
        }
        for (int turn = 0; turn < 4; turn++) {
            checks.due(3, count.of(oneAcross(turn)), "the number of trains beside one that conflicts with all");
        }
        checks.due(2, count.of(junction()), "the number of trains with one without a route");
    }

    /** Four trains, of which the one that comes at the given turn conflicts with the others, and no others conflict. */
    private static InterlockingBox oneAcross(int turn) {
        InterlockingBox box = Boxes.row(1, 1, 1, 1, 1);
        int others = 0;
        for (int i = 0; i < 4; i++) {
            if (i == turn) {
                box.addTrain(0, 4);
            } else {
                others++;
                box.addTrain(others, others + 1);
            }
        }
        return box;
    }

    private static void addRefusals(Suite suite) {
        suite.promise(39, "Returns the reason of the latest refusal of setRoute, also in a program: 'n' if there was no "
                + "route, and otherwise the state of the first block of the route, except its first one, that was not "
                + "free, as in blockState.", WaitingSentences::reasons);
        suite.promise(39, "Throws `NoSuchElementException` if there was no refusal",
                checks -> noRefusal(checks, InterlockingBox::refusalReason));
        suite.promise(40, "Returns the block that was the reason of the latest refusal.", WaitingSentences::refusalBlocks);
        suite.promise(40, "Throws `NoSuchElementException` if there was no refusal, or there was no route",
                WaitingSentences::noRefusalBlock);
    }

    /** Train 0 is on its way over blocks 1, 2 and 3; train 1 has no way; train 2 reserves block 3 from block 4. */
    private static InterlockingBox refusing(String shut, String occupied, boolean isReserved) {
        InterlockingBox box = Boxes.ones(6);
        box.addLink(0, 1);
        box.addLink(1, 2);
        box.addLink(2, 3);
        box.addLink(4, 3);
        box.addTrain(0, 3);
        box.addTrain(5, 3);
        box.addTrain(4, 3);
        if (isReserved) {
            box.setRoute(2);
        }
        for (char block : occupied.toCharArray()) {
            box.addTrain(block - '0', 5);
        }
        for (char block : shut.toCharArray()) {
            box.shut(block - '0');
        }
        return Boxes.laden(box);
    }

    private static void refused(Checks checks, InterlockingBox box, int train, Object reason, Object block) {
        checks.throwsOnly(Checks.REFUSED, () -> box.setRoute(train), "setRoute(" + train + ")");
        checks.due(reason, Checks.outcome(box::refusalReason), "refusalReason()");
        checks.due(block, Checks.outcome(box::refusalBlock), "refusalBlock()");
    }

    private static void reasons(Checks checks) {
        refused(checks, refusing("", "", false), 1, 'n', Checks.ELEMENT);
        refused(checks, refusing("1", "", false), 0, 's', 1);
        refused(checks, refusing("", "1", false), 0, 'o', 1);
        refused(checks, refusing("3", "", false), 0, 's', 3);
        refused(checks, refusing("", "3", false), 0, 'o', 3);
        refused(checks, refusing("", "", true), 0, 'r', 3);
        refused(checks, refusing("1", "1", true), 0, 's', 1);
        refused(checks, refusing("0", "2", true), 0, 'o', 2);
        refused(checks, refusing("2", "1", true), 0, 'o', 1);
        refused(checks, refusing("1", "2", true), 0, 's', 1);
        checks.due(3, refusing("0", "", false).setRoute(0), "setRoute(0) from a shut block");
        InterlockingBox box = refusing("", "", true);
        refused(checks, box, 0, 'r', 3);
        refused(checks, box, 1, 'n', Checks.ELEMENT);
        box.addTrain(1, 2);
        box.setRoute(3);
        checks.due('n', box.refusalReason(), "refusalReason() after a route that was set");
        InterlockingBox program = refusing("", "1", false);
        checks.throwsOnly(Checks.ARGUMENT, program::run, "run() of the text that is there");
        checks.throwsOnly(Checks.REFUSED, () -> Boxes.run(program, "set 0"), "a program with a refusal");
        checks.due('o', program.refusalReason(), "refusalReason() in a program");
        checks.throwsOnly(Checks.REFUSED, () -> Boxes.run(program, "shut 1;set 0"), "a program with a refusal");
        checks.due('s', program.refusalReason(), "refusalReason() in a program, as the block was then");
        checks.due('o', program.blockState(1), "blockState(1) after the program");
    }

    private static void noRefusal(Checks checks, Checks.Use use) {
        checks.throwsOnly(Checks.ELEMENT, () -> use.of(new InterlockingBox()), "the call in a new box");
        Checks.Recipe others = () -> {
            InterlockingBox box = refusing("", "1", false);
            box.pass(1);
            Checks.thrownBy(() -> box.setRoute(2));
            Checks.thrownBy(() -> box.setRoute(9));
            Checks.thrownBy(() -> box.shut(3));
            return box;
        };
        checks.refuses(others, Checks.ELEMENT, use, "the call after refusals of other kinds");
        InterlockingBox box = others.make();
        Checks.thrownBy(() -> box.setRoute(0));
        checks.answers(() -> use.of(box), "the call after a refusal");
        InterlockingBox set = refusing("", "", false);
        set.setRoute(0);
        checks.throwsOnly(Checks.ELEMENT, () -> use.of(set), "the call after setRoute");
    }

    private static void refusalBlocks(Checks checks) {
        InterlockingBox box = refusing("1", "", true);
        refused(checks, box, 0, 's', 1);
        box.open(1);
        checks.due(1, box.refusalBlock(), "refusalBlock() after open(1)");
        refused(checks, box, 0, 'r', 3);
        box.undo();
        box.restore();
        checks.due(3, box.refusalBlock(), "refusalBlock() after undo() and restore()");
        InterlockingBox zero = Boxes.circle(1, 1);
        zero.addTrain(1, 0);
        zero.shut(0);
        refused(checks, zero, 0, 's', 0);
        InterlockingBox last = Boxes.row(1, 1, 1, 1, 1, 1, 1, 1, 1, 1, 1, 1);
        last.addTrain(0, 11);
        last.addTrain(11, 0);
        refused(checks, last, 0, 'o', 11);
        InterlockingBox program = refusing("", "2", false);
        Checks.thrownBy(program::run);
        checks.throwsOnly(Checks.REFUSED, () -> Boxes.run(program, "set 0"), "a program with a refusal");
        checks.due(2, program.refusalBlock(), "refusalBlock() in a program");
    }

    private static void noRefusalBlock(Checks checks) {
        noRefusal(checks, InterlockingBox::refusalBlock);
        Checks.Recipe none = () -> {
            InterlockingBox box = refusing("1", "", false);
            Checks.thrownBy(() -> box.setRoute(0));
            Checks.thrownBy(() -> box.setRoute(1));
            return box;
        };
        checks.refuses(none, Checks.ELEMENT, InterlockingBox::refusalBlock, "refusalBlock() without a route");
        InterlockingBox box = none.make();
        refused(checks, box, 0, 's', 1);
    }
}
