/** Promises 54 to 56 and what "Terms" says of undo, each sentence at its boundaries. */
final class UndoSentences {
    private static final int MOST = 8;

    private UndoSentences() {
    }

    static void addTo(Suite suite) {
        addUndo(suite);
        addSnapshots(suite);
        suite.term("The 8 latest changes can be undone.", UndoSentences::eightLatest);
        suite.term("A change is a successful call of addBlock, addPoint, addLink, addTrain, setRoute, releaseRoute, shut, "
                + "open, throwPoint, pass or run.", UndoSentences::whatIsAChange);
        suite.term("The state that is undone, saved and restored consists of everything except the program buffer, the "
                + "error position, the failed command, the reasons of refusals and the output line.",
                UndoSentences::whatIsUndone);
    }

    private static void addUndo(Suite suite) {
        suite.promise(54, "Undoes the latest change that was not undone.", UndoSentences::undoesTheLatest);
        suite.promise(54, "Returns the number of changes that can still be undone.", UndoSentences::numberOfChanges);
        suite.promise(54, "Throws `IllegalStateException` if no change can be undone", UndoSentences::nothingToUndo);
    }

    private static void undoesTheLatest(Checks checks) {
        InterlockingBox box = new InterlockingBox();
        box.addBlock(3);
        box.addBlock(4);
        box.pass(5);
        box.undo();
        checks.due(0, box.time(), "time() after the first undo()");
        checks.due(2, box.blocks(), "blocks() after the first undo()");
        box.undo();
        checks.due(1, box.blocks(), "blocks() after the second undo()");
        box.addBlock(6);
        box.undo();
        checks.due(1, box.blocks(), "blocks() after an undo() of the change that came then");
        checks.due(3, box.blockLength(0), "blockLength(0)");
        box.undo();
        checks.due(0, box.blocks(), "blocks() after the last undo()");
    }

    private static void numberOfChanges(Checks checks) {
        for (int changes = 1; changes <= 20; changes++) {
            InterlockingBox box = new InterlockingBox();
            for (int i = 0; i < changes; i++) {
                box.pass(1);
            }
            int left = Math.min(changes, MOST);
            while (left > 0) {
                left--;
                checks.due(left, box.undo(), "undo() with " + left + " left of " + changes);
            }
            checks.throwsOnly(Checks.STATE, box::undo, "undo() with none left of " + changes);
        }
        InterlockingBox mixed = new InterlockingBox();
        for (int i = 0; i < 10; i++) {
            mixed.pass(1);
        }
        mixed.undo();
        mixed.undo();
        mixed.pass(1);
        checks.due(6, mixed.undo(), "undo() of a change after two that were undone");
        mixed.pass(1);
        mixed.pass(1);
        mixed.pass(1);
        checks.due(7, mixed.undo(), "undo() of the last of three changes more");
    }

    private static void nothingToUndo(Checks checks) {
        checks.refuses(InterlockingBox::new, Checks.STATE, InterlockingBox::undo, "undo() in a new box");
        Checks.Recipe all = () -> {
            InterlockingBox box = Boxes.ones(12);
            for (int i = 0; i < MOST; i++) {
                box.undo();
            }
            return Boxes.laden(box);
        };
        checks.refuses(all, Checks.STATE, InterlockingBox::undo, "a ninth undo()");
        Checks.Recipe one = () -> {
            InterlockingBox box = Boxes.ones(1);
            box.undo();
            return Boxes.laden(box);
        };
        checks.refuses(one, Checks.STATE, InterlockingBox::undo, "undo() of more than there was");
        Checks.Recipe restored = () -> {
            InterlockingBox box = Boxes.laden(Boxes.ones(12));
            box.restore();
            return box;
        };
        checks.refuses(restored, Checks.STATE, InterlockingBox::undo, "undo() after restore()");
        InterlockingBox box = all.make();
        box.pass(1);
        checks.due(0, box.undo(), "undo() of one change more");
    }

    private static void addSnapshots(Suite suite) {
        suite.promise(55, "Saves the state in place of the state that was saved before.", UndoSentences::savesInPlace);
        suite.promise(55, "Returns the number of trains that are present.", UndoSentences::trainsWhenSaved);
        suite.promise(56, "Restores the saved state, which stays saved.", UndoSentences::restoresAgain);
        suite.promise(56, "Afterwards no change can be undone.", UndoSentences::noUndoAfterRestore);
        suite.promise(56, "Returns the number of trains that are present.", UndoSentences::trainsWhenRestored);
        suite.promise(56, "Throws `IllegalStateException` if no state was saved", UndoSentences::nothingSaved);
    }

    private static void savesInPlace(Checks checks) {
        InterlockingBox box = Boxes.ones(1);
        box.save();
        box.addBlock(2);
        box.restore();
        checks.due(1, box.blocks(), "blocks() of the state that was saved first");
        box.addBlock(3);
        box.save();
        box.addBlock(4);
        box.restore();
        checks.due(2, box.blocks(), "blocks() of the state that was saved last");
        checks.due(3, box.blockLength(1), "blockLength(1) of the state that was saved last");
        for (Probe probe : Probe.ALL) {
            if (probe.aspect != Aspect.SAVED) {
                InterlockingBox saved = running();
                saved.save();
                checks.due(probe.answers(running()), probe.answers(saved), probe.name + " after save()");
            }
        }
    }

    /** A box with a train on its way, one in the queue, a shut block and a moved point. */
    private static InterlockingBox running() {
        InterlockingBox box = Boxes.withBlocks(1, 5, 2, 3, 1);
        box.addPoint(0, 1, 2);
        box.addLink(2, 3);
        box.addTrain(0, 3);
        box.addTrain(4, 0);
        box.shut(1);
        box.pass(2);
        Boxes.type(box, "wai");
        return box;
    }

    private static void trainsWhenSaved(Checks checks) {
        InterlockingBox box = Boxes.ones(9);
        for (int i = 0; i < 8; i++) {
            checks.due(i, box.save(), "save() with " + i + " trains");
            box.addTrain(i, 8);
        }
        checks.due(8, box.save(), "save() with eight trains");
        InterlockingBox arrived = running();
        arrived.pass(5);
        checks.due(1, arrived.save(), "save() after an arrival");
    }

    private static void restoresAgain(Checks checks) {
        for (Probe probe : Probe.ALL) {
            if (probe.aspect == Aspect.STATE) {
                InterlockingBox box = running();
                box.save();
                for (int times = 1; times <= 2; times++) {
                    box.pass(240);
                    box.open(1);
                    box.addBlock(9);
                    box.addLink(1, 3);
                    box.throwPoint(0);
                    box.addTrain(3, 0);
                    box.restore();
                }
                checks.due(probe.answers(running()), probe.answers(box), probe.name + " after restore()");
                InterlockingBox rebuilt = running();
                rebuilt.save();
                rebuild(rebuilt);
                rebuilt.restore();
                checks.due(probe.answers(running()), probe.answers(rebuilt), probe.name + " after another line");
            }
        }
        InterlockingBox past = running();
        past.save();
        for (int i = 0; i < MOST; i++) {
            past.undo();
        }
        checks.due(2, past.restore(), "restore() after undo() of changes that were saved");
        checks.due("o0sr0r0o1", Boxes.blocks(past), "the blocks after restore()");
    }

    /** Undoes all that can be undone, and builds something else instead. */
    private static void rebuild(InterlockingBox box) {
        for (int i = 0; i < MOST; i++) {
            box.undo();
        }
        for (int i = box.blocks(); i < 12; i++) {
            box.addBlock(9);
        }
        box.addPoint(2, 11, 1);
        box.addPoint(0, 2, 11);
        box.addLink(1, 0);
        box.addLink(11, 10);
        box.addLink(10, 3);
        box.throwPoint(0);
        box.shut(4);
        box.addTrain(3, 5);
        box.addTrain(0, 10);
        box.pass(240);
    }

    private static void noUndoAfterRestore(Checks checks) {
        InterlockingBox box = running();
        box.save();
        box.restore();
        checks.throwsOnly(Checks.STATE, box::undo, "undo() after restore()");
        box.pass(1);
        box.pass(1);
        checks.due(1, box.undo(), "undo() of a change after restore()");
        checks.due(0, box.undo(), "undo() of the first change after restore()");
        checks.throwsOnly(Checks.STATE, box::undo, "undo() with none left");
        for (int i = 0; i < 9; i++) {
            box.pass(1);
        }
        box.restore();
        checks.throwsOnly(Checks.STATE, box::undo, "undo() after another restore()");
        for (int i = 0; i < 9; i++) {
            box.pass(1);
        }
        checks.due(7, box.undo(), "undo() of the ninth change after restore()");
    }

    private static void trainsWhenRestored(Checks checks) {
        for (int trains : new int[] {0, 1, 7, 8}) {
            InterlockingBox box = Boxes.ones(12);
            for (int i = 0; i < trains; i++) {
                box.addTrain(i, 11);
            }
            box.save();
            if (trains == 8) {
                box.undo();
            } else {
                box.addTrain(8, 11);
            }
            checks.due(trains, box.restore(), "restore() of " + trains + " trains");
            checks.due(trains, box.trains(), "trains()");
        }
    }

    private static void nothingSaved(Checks checks) {
        checks.refuses(InterlockingBox::new, Checks.STATE, InterlockingBox::restore, "restore() in a new box");
        checks.refuses(UndoSentences::running, Checks.STATE, InterlockingBox::restore, "restore() before save()");
        InterlockingBox box = running();
        box.save();
        checks.due(2, box.restore(), "restore() after save()");
        InterlockingBox empty = new InterlockingBox();
        empty.save();
        checks.due(0, empty.restore(), "restore() of an empty box");
    }

    private static void eightLatest(Checks checks) {
        for (int changes = 7; changes <= 27; changes++) {
            InterlockingBox box = new InterlockingBox();
            for (int i = 0; i < changes; i++) {
                box.pass(i + 1);
            }
            int undone = 0;
            while (Checks.outcome(box::undo) instanceof Integer) {
                undone++;
                int left = changes - undone;
                checks.due(left * (left + 1) / 2, box.time(), "time() after " + undone + " of " + changes);
            }
            checks.due(Math.min(changes, MOST), undone, "the number of changes that were undone of " + changes);
        }
    }

    /** A box in which each kind of change can succeed, and in which none can be undone. */
    private static InterlockingBox withoutPast() {
        InterlockingBox box = Boxes.withBlocks(1, 5, 2, 3, 1, 1, 1);
        box.addPoint(0, 1, 2);
        box.addPoint(5, 6, 3);
        box.addLink(2, 3);
        box.addLink(4, 5);
        box.addTrain(0, 3);
        box.addTrain(4, 5);
        box.setRoute(0);
        box.shut(1);
        box.save();
        box.restore();
        return box;
    }

    private static void whatIsAChange(Checks checks) {
        Checks.Use[] changes = {box -> box.addBlock(1), box -> box.addPoint(6, 4, 5), box -> box.addLink(3, 0),
            box -> box.addTrain(6, 0), box -> box.setRoute(1), box -> box.releaseRoute(0), box -> box.shut(6),
            box -> box.open(1), box -> box.throwPoint(1), box -> box.pass(1), box -> box.pass(240),
            box -> Boxes.run(box, "wait"), box -> Boxes.run(box, "set 1;free 0;block 9;wait 2")};
        for (int i = 0; i < changes.length; i++) {
            InterlockingBox box = withoutPast();
            changes[i].of(box);
            checks.due(0, box.undo(), "undo() of change " + i);
            checks.throwsOnly(Checks.STATE, box::undo, "undo() of more than change " + i);
            for (Probe probe : Probe.ALL) {
                if (probe.aspect == Aspect.STATE) {
                    InterlockingBox undone = withoutPast();
                    changes[i].of(undone);
                    undone.undo();
                    checks.due(probe.answers(withoutPast()), probe.answers(undone), probe.name + " after undo() of " + i);
                }
            }
        }
        Checks.Use[] others = {InterlockingBox::save, box -> box.type('w'), InterlockingBox::writeBlocks,
            box -> box.writeTrain(0), InterlockingBox::isConsistent, InterlockingBox::deadlocked,
            InterlockingBox::mostWithoutConflictBySets, box -> box.minutesUntilArrivalByPassing(0),
            box -> box.addBlock(0), box -> box.addPoint(0, 1, 2), box -> box.addLink(0, 1), box -> box.addTrain(0, 1),
            box -> box.setRoute(0), box -> box.setRoute(9), box -> box.releaseRoute(1), box -> box.shut(1),
            box -> box.open(0), box -> box.throwPoint(0), box -> box.pass(0), InterlockingBox::run,
            box -> Boxes.run(box, "wait;shut 1"), box -> Boxes.errorIn(box, "wait;")};
        for (int i = 0; i < others.length; i++) {
            InterlockingBox box = withoutPast();
            Checks.Use use = others[i];
            Checks.outcome(() -> use.of(box));
            checks.throwsOnly(Checks.STATE, box::undo, "undo() of call " + i + ", which is no change,");
        }
    }

    /** Three changes, and something in each part of the box that is not undone. */
    private static InterlockingBox recorded() {
        InterlockingBox box = withoutPast();
        box.shut(5);
        box.pass(1);
        box.throwPoint(1);
        Boxes.errorIn(box, "wait;x");
        Checks.thrownBy(() -> Boxes.run(box, "throw 1;wait;set 9"));
        Checks.thrownBy(() -> box.setRoute(1));
        box.writeTrain(0);
        Boxes.type(box, "wai");
        return box;
    }

    private static void whatIsUndone(Checks checks) {
        Checks.Use[] uses = {InterlockingBox::undo, InterlockingBox::restore, InterlockingBox::save};
        for (Probe probe : Probe.ALL) {
            boolean isKept = probe.aspect != Aspect.STATE && probe.aspect != Aspect.PAST && probe.aspect != Aspect.SAVED;
            for (int i = 0; isKept && i < uses.length; i++) {
                InterlockingBox box = recorded();
                uses[i].of(box);
                checks.due(probe.answers(recorded()), probe.answers(box), probe.name + " after call " + i);
            }
            if (probe.aspect == Aspect.STATE) {
                InterlockingBox undone = recorded();
                undone.undo();
                undone.undo();
                undone.undo();
                checks.due(probe.answers(withoutPast()), probe.answers(undone), probe.name + " after undo()");
                InterlockingBox restored = recorded();
                restored.restore();
                checks.due(probe.answers(withoutPast()), probe.answers(restored), probe.name + " after restore()");
            }
        }
        InterlockingBox box = recorded();
        box.restore();
        checks.due(5, box.errorPosition(), "errorPosition() after restore()");
        checks.due(2, box.failedCommand(), "failedCommand() after restore()");
        checks.due('s', box.refusalReason(), "refusalReason() after restore()");
        checks.due(5, box.refusalBlock(), "refusalBlock() after restore()");
        checks.due('@', box.charAt(1), "charAt(1) after restore()");
        checks.due(4, box.type('t'), "type after restore()");
    }
}
