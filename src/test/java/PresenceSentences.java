/** Promises 22 to 32: the properties of trains, each sentence at its boundaries. */
final class PresenceSentences {
    private PresenceSentences() {
    }

    static void addTo(Suite suite) {
        addPresence(suite);
        addPlaces(suite);
        addRoutes(suite);
        addMinutes(suite);
        addDelays(suite);
    }

    private static void addPresence(Suite suite) {
        suite.promise(22, "Returns the number of trains that are present.", PresenceSentences::numberOfTrains);
        suite.promise(23, "Returns whether a train with a number is present.", PresenceSentences::presence);
        suite.promise(23, "Returns true if it is present.", PresenceSentences::presenceOfOthers);
    }

    /** Eight trains in a row, each one on its way to the last block, which is free. */
    private static InterlockingBox eightTrains() {
        InterlockingBox box = Boxes.row(1, 1, 1, 1, 1, 1, 1, 1, 1);
        for (int i = 0; i < 8; i++) {
            box.addTrain(i, 8);
        }
        return box;
    }

    private static void numberOfTrains(Checks checks) {
        InterlockingBox box = Boxes.ones(12);
        checks.due(0, box.trains(), "trains()");
        for (int i = 0; i < 8; i++) {
            box.addTrain(i, 11);
            checks.due(i + 1, box.trains(), "trains()");
        }
        box.undo();
        checks.due(7, box.trains(), "trains() after undo()");
        InterlockingBox eight = eightTrains();
        eight.pass(1);
        checks.due(8, eight.trains(), "trains() in the minute before the arrival");
        eight.pass(1);
        checks.due(7, eight.trains(), "trains() after the arrival");
        eight.pass(240);
        checks.due(0, eight.trains(), "trains() after all arrivals");
    }

    private static void presence(Checks checks) {
        InterlockingBox box = Boxes.row(1, 2);
        checks.due(false, box.isPresent(0), "isPresent(0) before it comes");
        box.addTrain(0, 1);
        checks.due(true, box.isPresent(0), "isPresent(0)");
        checks.due(false, box.isPresent(1), "isPresent(1) before it comes");
        box.setRoute(0);
        box.pass(1);
        checks.due(true, box.isPresent(0), "isPresent(0) in the minute before it arrives");
        box.pass(1);
        checks.due(false, box.isPresent(0), "isPresent(0) after it arrived");
        box.addTrain(0, 1);
        checks.due(false, box.isPresent(0), "isPresent(0) beside the next train");
        checks.due(true, box.isPresent(1), "isPresent(1)");
        box.undo();
        checks.due(false, box.isPresent(1), "isPresent(1) after undo()");
        InterlockingBox eight = eightTrains();
        checks.due(true, eight.isPresent(7), "isPresent(7) of eight trains");
        checks.due(false, eight.isPresent(8), "isPresent(8) of eight trains");
    }

    private static void presenceOfOthers(Checks checks) {
        for (int number : Checks.outside(8)) {
            checks.due(false, eightTrains().isPresent(number), "isPresent of " + number);
            checks.due(false, new InterlockingBox().isPresent(number), "isPresent of " + number + " in a new box");
        }
        checks.due(true, eightTrains().isPresent(0), "isPresent(0)");
    }

    private static void addPlaces(Suite suite) {
        suite.promise(24, "Returns the block that a train occupies.", PresenceSentences::blocksOfTrains);
        suite.promise(24, "Throws `NoSuchElementException` if there is no such train",
                checks -> TrainSentences.noSuchTrain(checks, false, InterlockingBox::blockOf, "blockOf"));
        suite.promise(25, "Returns the destination of a train.", PresenceSentences::destinations);
        suite.promise(25, "Throws `NoSuchElementException` if there is no such train",
                checks -> TrainSentences.noSuchTrain(checks, false, InterlockingBox::destination, "destination"));
    }

    private static void blocksOfTrains(Checks checks) {
        InterlockingBox box = Boxes.row(1, 2, 1);
        box.addTrain(0, 2);
        checks.due(0, box.blockOf(0), "blockOf(0)");
        box.setRoute(0);
        box.pass(1);
        checks.due(0, box.blockOf(0), "blockOf(0) in the minute before it enters");
        box.pass(1);
        checks.due(1, box.blockOf(0), "blockOf(0) in the minute in which it enters");
        InterlockingBox last = Boxes.ones(12);
        last.addTrain(11, 0);
        checks.due(11, last.blockOf(0), "blockOf in the last block");
    }

    private static void destinations(Checks checks) {
        InterlockingBox box = Boxes.ones(12);
        box.addTrain(0, 11);
        box.addTrain(11, 0);
        checks.due(11, box.destination(0), "destination(0)");
        checks.due(0, box.destination(1), "destination(1)");
        InterlockingBox running = Boxes.row(1, 1, 1);
        running.addTrain(0, 2);
        running.setRoute(0);
        running.pass(1);
        checks.due(2, running.destination(0), "destination(0) on the way");
    }

    private static void addRoutes(Suite suite) {
        suite.promise(26, "Returns whether a train has a set route.", PresenceSentences::hasRoute);
        suite.promise(26, "Throws `NoSuchElementException` if there is no such train",
                checks -> TrainSentences.noSuchTrain(checks, false, InterlockingBox::hasRoute, "hasRoute"));
        suite.promise(27, "Returns whether the route of a train can be set now.", PresenceSentences::canBeSet);
        suite.promise(27, "Returns true if it can be set, false also if it is set.", PresenceSentences::notClearIfSet);
        suite.promise(27, "Throws `NoSuchElementException` if there is no such train",
                checks -> TrainSentences.noSuchTrain(checks, false, InterlockingBox::isClear, "isClear"));
    }

    private static void hasRoute(Checks checks) {
        InterlockingBox box = Boxes.row(1, 1, 1);
        box.addTrain(0, 2);
        checks.due(false, box.hasRoute(0), "hasRoute(0) of a new train");
        box.setRoute(0);
        checks.due(true, box.hasRoute(0), "hasRoute(0) when set");
        box.pass(1);
        checks.due(true, box.hasRoute(0), "hasRoute(0) before the last block");
        box.releaseRoute(0);
        checks.due(false, box.hasRoute(0), "hasRoute(0) when released");
        box.pass(1);
        checks.due(true, box.hasRoute(0), "hasRoute(0) when a minute has set it");
        InterlockingBox none = Boxes.row(1, 1);
        none.addTrain(1, 0);
        none.pass(1);
        checks.due(false, none.hasRoute(0), "hasRoute(0) without a way");
    }

    private static void canBeSet(Checks checks) {
        InterlockingBox box = Boxes.row(1, 1, 1, 1);
        box.addTrain(0, 2);
        checks.due(true, box.isClear(0), "isClear(0)");
        box.shut(3);
        checks.due(true, box.isClear(0), "isClear(0) with a shut block behind the destination");
        box.shut(0);
        checks.due(true, box.isClear(0), "isClear(0) from a shut block");
        box.shut(2);
        checks.due(false, box.isClear(0), "isClear(0) to a shut destination");
        box.open(2);
        box.shut(1);
        checks.due(false, box.isClear(0), "isClear(0) over a shut block");
        box.open(1);
        checks.due(true, box.isClear(0), "isClear(0) over a block that was opened");
        box.addTrain(2, 3);
        checks.due(false, box.isClear(0), "isClear(0) to an occupied destination");
        box.open(3);
        checks.due(true, box.isClear(1), "isClear(1)");
        InterlockingBox none = Boxes.row(1, 1);
        none.addTrain(1, 0);
        checks.due(false, none.isClear(0), "isClear(0) without a route");
        none.addLink(1, 0);
        checks.due(true, none.isClear(0), "isClear(0) with a route");
        InterlockingBox reserved = Boxes.row(1, 1, 1);
        reserved.addBlock(1);
        reserved.addLink(3, 2);
        reserved.addTrain(0, 2);
        reserved.addTrain(3, 2);
        reserved.setRoute(1);
        checks.due(false, reserved.isClear(0), "isClear(0) to a reserved destination");
        reserved.releaseRoute(1);
        checks.due(true, reserved.isClear(0), "isClear(0) to a destination that is reserved no more");
    }

    private static void notClearIfSet(Checks checks) {
        InterlockingBox box = Boxes.row(1, 1, 1);
        box.addTrain(0, 2);
        checks.due(true, box.isClear(0), "isClear(0) before it is set");
        box.setRoute(0);
        checks.due(false, box.isClear(0), "isClear(0) when it is set");
        box.pass(1);
        checks.due(false, box.isClear(0), "isClear(0) on the way");
        box.releaseRoute(0);
        checks.due(true, box.isClear(0), "isClear(0) when it is released");
    }

    private static void addMinutes(Suite suite) {
        String noRoute = "Throws `NoSuchElementException` if there is no such train, or it has no set route";
        suite.promise(28, "Returns after how many minutes a train enters the next block of its set route.",
                PresenceSentences::untilNext);
        suite.promise(28, noRoute, checks -> noSetRoute(checks, InterlockingBox::minutesUntilNext));
        suite.promise(29, "Returns after how many minutes a train with a set route arrives, by adding lengths.",
                checks -> untilArrival(checks, InterlockingBox::minutesUntilArrival));
        suite.promise(29, noRoute, checks -> noSetRoute(checks, InterlockingBox::minutesUntilArrival));
        suite.promise(30, "Returns the same number, by letting minutes pass on a copy of the signal box.",
                PresenceSentences::untilArrivalByPassing);
        suite.promise(30, noRoute, checks -> noSetRoute(checks, InterlockingBox::minutesUntilArrivalByPassing));
    }

    private static void untilNext(Checks checks) {
        InterlockingBox box = Boxes.row(5, 9, 1, 2);
        box.pass(240);
        box.addTrain(0, 3);
        box.setRoute(0);
        int[] due = {9, 8, 7, 6, 5, 4, 3, 2, 1, 1, 2, 1};
        for (int i = 0; i < due.length; i++) {
            checks.due(due[i], box.minutesUntilNext(0), "minutesUntilNext(0) after " + i + " minutes");
            box.pass(1);
        }
        checks.due(false, box.isPresent(0), "isPresent(0) in the end");
        InterlockingBox queue = Boxes.row(1, 4);
        queue.addTrain(0, 1);
        queue.pass(1);
        checks.due(4, queue.minutesUntilNext(0), "minutesUntilNext(0) in the minute that sets the route");
    }

    private static void noSetRoute(Checks checks, Checks.NumberedUse use) {
        TrainSentences.noSuchTrain(checks, true, use, "the call");
        Checks.Recipe none = () -> {
            InterlockingBox box = Boxes.row(1, 2, 1);
            box.addTrain(0, 2);
            return Boxes.laden(box);
        };
        checks.refuses(none, Checks.ELEMENT, box -> use.of(box, 0), "the call before the route is set");
        InterlockingBox box = none.make();
        box.setRoute(0);
        checks.answers(() -> use.of(box, 0), "the call when the route is set");
        Checks.Recipe released = () -> {
            InterlockingBox later = none.make();
            later.setRoute(0);
            later.pass(2);
            later.releaseRoute(0);
            return later;
        };
        checks.refuses(released, Checks.ELEMENT, later -> use.of(later, 0), "the call after releaseRoute");
        box.pass(2);
        checks.answers(() -> use.of(box, 0), "the call in the minute before the arrival");
        box.pass(1);
        checks.throwsOnly(Checks.ELEMENT, () -> use.of(box, 0), "the call after the arrival");
    }

    private static void untilArrival(Checks checks, Checks.NumberedUse use) {
        InterlockingBox shortest = Boxes.row(9, 1);
        shortest.addTrain(0, 1);
        shortest.setRoute(0);
        checks.due(1, use.of(shortest, 0), "the minutes of a shortest route");
        InterlockingBox box = Boxes.row(9, 9, 9, 9, 9, 9, 9, 9, 9, 9, 9, 9);
        box.addTrain(0, 11);
        box.setRoute(0);
        for (int i = 0; i < 99; i++) {
            checks.due(99 - i, use.of(box, 0), "the minutes of a longest route after " + i + " minutes");
            box.pass(1);
        }
        checks.due(1, box.arrived(), "arrived() after 99 minutes");
        InterlockingBox early = Boxes.row(9, 2, 3);
        early.addTrain(0, 2);
        early.setRoute(0);
        early.pass(1);
        checks.due(4, use.of(early, 0), "the minutes within the first block");
        early.releaseRoute(0);
        early.setRoute(0);
        checks.due(5, use.of(early, 0), "the minutes when the route is set anew");
    }

    private static void untilArrivalByPassing(Checks checks) {
        untilArrival(checks, InterlockingBox::minutesUntilArrivalByPassing);
        InterlockingBox right = Boxes.diamond(1, 9, 2, 3);
        right.addTrain(0, 3);
        right.setRoute(0);
        checks.due(5, right.minutesUntilArrivalByPassing(0), "the minutes over a right branch");
        Checks.Recipe busy = () -> {
            InterlockingBox box = eightTrains();
            box.setRoute(7);
            return Boxes.laden(box);
        };
        for (Probe probe : Probe.ALL) {
            InterlockingBox asked = busy.make();
            asked.minutesUntilArrivalByPassing(7);
            checks.due(probe.answers(busy.make()), probe.answers(asked), probe.name + " after it");
        }
    }

    private static void addDelays(Suite suite) {
        suite.promise(31, "Returns the delay of a train.", PresenceSentences::delays);
        suite.promise(31, "Throws `NoSuchElementException` if there is no such train",
                checks -> TrainSentences.noSuchTrain(checks, false, InterlockingBox::delay, "delay"));
        suite.promise(32, "Returns the train at a position of the queue.", PresenceSentences::queue);
        suite.promise(32, "`position`: the position, counted from 0", PresenceSentences::positions);
        suite.promise(32, "Throws `NoSuchElementException` if there is no such position",
                PresenceSentences::noSuchPosition);
    }

    private static void delays(Checks checks) {
        InterlockingBox box = Boxes.row(1, 1);
        box.addTrain(1, 0);
        checks.due(0, box.delay(0), "delay(0) of a new train");
        box.pass(1);
        checks.due(1, box.delay(0), "delay(0) after one minute");
        box.pass(240);
        checks.due(241, box.delay(0), "delay(0) after 241 minutes");
        box.addLink(1, 0);
        box.pass(1);
        checks.due(241, box.delay(0), "delay(0) in the minute that sets its route");
        box.pass(1);
        box.addTrain(1, 0);
        checks.due(0, box.delay(1), "delay(1) of a train that comes after one with a delay");
    }

    private static void queue(Checks checks) {
        InterlockingBox box = eightTrains();
        for (int i = 0; i < 8; i++) {
            checks.due(i, box.queued(i), "queued(" + i + ")");
        }
        box.setRoute(7);
        box.releaseRoute(7);
        checks.due(7, box.queued(7), "queued(7) when released");
        box.pass(2);
        checks.due(0, box.queued(0), "queued(0) after an arrival");
        checks.due(5, box.queued(5), "queued(5) after an arrival");
        checks.throwsOnly(Checks.ELEMENT, () -> box.queued(6), "queued(6) after an arrival");
    }

    private static void positions(Checks checks) {
        InterlockingBox box = Boxes.row(1, 1, 1, 1);
        box.addTrain(2, 3);
        box.addTrain(0, 1);
        checks.due(0, box.queued(0), "queued(0)");
        checks.due(1, box.queued(1), "queued(1)");
        box.setRoute(0);
        checks.due(1, box.queued(0), "queued(0) when the first one left the queue");
        box.releaseRoute(0);
        checks.due(1, box.queued(0), "queued(0)");
        checks.due(0, box.queued(1), "queued(1) of the train that came back");
    }

    private static void noSuchPosition(Checks checks) {
        for (int trains : new int[] {0, 1, 2, 8}) {
            Checks.Recipe some = () -> {
                InterlockingBox box = Boxes.ones(12);
                for (int i = 0; i < trains; i++) {
                    box.addTrain(i, 11);
                }
                return Boxes.laden(box);
            };
            checks.refusesEach(some, Checks.ELEMENT, Checks.outside(trains), InterlockingBox::queued, "queued");
            if (trains > 0) {
                checks.due(trains - 1, some.make().queued(trains - 1), "queued of the last position");
            }
        }
        InterlockingBox box = Boxes.row(1, 1);
        box.addTrain(0, 1);
        box.setRoute(0);
        checks.throwsOnly(Checks.ELEMENT, () -> box.queued(0), "queued(0) of a train with a set route");
    }
}
