/** Promises 50 to 53: programs. */
public final class ProgramTest {
    private static final Checks CHECKS = new Checks();

    public static void main(String[] args) {
        type();
        runAllCommands();
        runIsOneChange();
        failedCommands();
        failuresChangeNothing();
        notPrograms();
        prefixes();
        recorded();
        CHECKS.end();
    }

    private static void type() {
        CHECKS.promise(50);
        InterlockingBox box = new InterlockingBox();
        for (int i = 1; i <= 60; i++) {
            CHECKS.due(i, box.type((char) (i * 1000)), "type");
        }
        CHECKS.throwsOnly(Checks.STATE, () -> box.type('a'), "type into a full buffer");
        CHECKS.throwsOnly(Checks.ARGUMENT, box::run, "run()");
        CHECKS.due(0, box.errorPosition(), "errorPosition()");
        CHECKS.due(1, box.type('a'), "type after run()");
    }

    private static void runAllCommands() {
        CHECKS.promise(51);
        InterlockingBox box = new InterlockingBox();
        CHECKS.due(6, Boxes.run(box, "block 1;block 2;block 3;block 4;point 0>1,2;link 1>3"), "run()");
        CHECKS.due(4, box.blocks(), "blocks()");
        CHECKS.due(2, box.blockLength(1), "blockLength(1)");
        CHECKS.due(6, box.routeLength(0, 3), "routeLength(0, 3)");
        CHECKS.due(3, box.routeLength(0, 2), "routeLength(0, 2)");
        CHECKS.due(3, Boxes.run(box, "train 0>003;shut 2;set 000"), "run()");
        CHECKS.due("o0r0sr0", Boxes.blocks(box), "the blocks");
        CHECKS.due(4, Boxes.run(box, "wait;wait 001;free 0;open 02"), "run()");
        CHECKS.due(2, box.time(), "time()");
        CHECKS.due("0@1?3", Boxes.train(box, 0), "writeTrain(0)");
        CHECKS.due("fo0ff", Boxes.blocks(box), "the blocks");
        CHECKS.due(1, Boxes.run(box, "throw 0"), "run()");
        CHECKS.due(false, box.liesLeft(0), "liesLeft(0)");
        CHECKS.due(1, Boxes.run(box, "wait 240"), "run()");
        CHECKS.due(242, box.time(), "time()");
        CHECKS.due(12, Boxes.run(box, "wait;wait;wait;wait;wait;wait;wait;wait;wait;wait;wait;wait"), "run()");
        CHECKS.due(254, box.time(), "time()");
    }

    private static void runIsOneChange() {
        CHECKS.promise(51);
        InterlockingBox box = new InterlockingBox();
        Boxes.run(box, "block 1;block 2;wait 9");
        CHECKS.due(0, box.undo(), "undo()");
        CHECKS.due(0, box.blocks(), "blocks()");
        CHECKS.due(0, box.time(), "time()");
    }

    private static int failing(InterlockingBox box, String text) {
        CHECKS.throwsOnly(Checks.REFUSED, () -> Boxes.run(box, text), text);
        return box.failedCommand();
    }

    private static void failedCommands() {
        CHECKS.promise(51);
        InterlockingBox box = Boxes.diamond(1, 1, 1, 1);
        box.addTrain(0, 3);
        box.shut(3);
        String[] failing = {"block 0", "point 0>1,2", "point 3>1,1", "point 3>1,4", "link 0>3", "link 3>3",
            "link 3>999", "train 0>1", "train 1>1", "train 1>4", "set 1", "free 0", "free 9", "shut 4", "open 0",
            "open 4", "throw 1", "wait 0", "wait 241"};
        for (String text : failing) {
            CHECKS.due(0, failing(box, text), "failedCommand() of " + text);
            CHECKS.due(1, failing(box, "wait;" + text + ";wait"), "failedCommand() of " + text);
            CHECKS.due(0, box.time(), "time() after " + text);
        }
        box.open(3);
        CHECKS.promise(53);
        CHECKS.due(2, failing(box, "set 0;wait;set 0"), "failedCommand()");
        CHECKS.due(1, failing(box, "set 0;throw 0"), "failedCommand()");
        CHECKS.due(false, box.hasRoute(0), "hasRoute(0)");
        CHECKS.due(true, box.liesLeft(0), "liesLeft(0)");
    }

    private static void failuresChangeNothing() {
        CHECKS.promise(51);
        InterlockingBox box = Boxes.row(1, 2, 3);
        box.addTrain(0, 2);
        box.writeTrain(0);
        String before = Picture.stateOf(box);
        CHECKS.throwsOnly(Checks.REFUSED, () -> Boxes.run(box, "set 0;wait 3;train 0>2;shut 0;block 4;open 1"), "run()");
        CHECKS.due(before, Picture.stateOf(box), "the state");
        CHECKS.due('@', box.charAt(1), "charAt(1)");
        CHECKS.due(1, box.type('x'), "type after a failed program");
        CHECKS.throwsOnly(Checks.ARGUMENT, box::run, "run()");
        CHECKS.due(before, Picture.stateOf(box), "the state");
        CHECKS.due(1, box.type('x'), "type after a text that is no program");
        CHECKS.throwsOnly(Checks.ARGUMENT, box::run, "run()");
        CHECKS.due(5, box.undo(), "undo() takes back the train");
        CHECKS.due(0, box.trains(), "trains()");
        Boxes.run(box, "wait");
        CHECKS.due(1, box.type('x'), "type after a program");
    }

    private static void wrongAt(int position, String text) {
        InterlockingBox box = Boxes.row(1, 1);
        CHECKS.promise(52);
        CHECKS.due(position, Boxes.errorIn(box, text), "errorPosition() of " + text);
        CHECKS.due("ff", Boxes.blocks(box), "the blocks after " + text);
        CHECKS.due(0, box.time(), "time() after " + text);
        CHECKS.throwsOnly(Checks.ELEMENT, box::failedCommand, "failedCommand() after " + text);
    }

    private static void notPrograms() {
        wrongAt(0, " wait");
        wrongAt(0, "x");
        wrongAt(0, "0");
        wrongAt(0, ";wait");
        wrongAt(0, "Wait");
        wrongAt(1, "tx");
        wrongAt(1, "sx");
        wrongAt(2, "sex");
        wrongAt(2, "shx");
        wrongAt(2, "tha");
        wrongAt(2, "tro");
        wrongAt(1, "bx");
        wrongAt(5, "block5");
        wrongAt(6, "block  5");
        wrongAt(6, "block x");
        wrongAt(7, "block 55");
        wrongAt(7, "block 5 ");
        wrongAt(7, "throw 11");
        wrongAt(6, "throw -1");
        wrongAt(7, "set 1234");
        wrongAt(5, "set 1x");
        wrongAt(4, "set >1");
        wrongAt(7, "point 1,2>3");
        wrongAt(9, "point 0>1>2");
        wrongAt(11, "point 0>1,2,3");
        wrongAt(9, "point 123456>1,2");
        wrongAt(8, "link 0>1,2");
        wrongAt(7, "link 0>>1");
        wrongAt(9, "train 0>1>2");
        wrongAt(4, "waits");
        wrongAt(5, "wait x");
        wrongAt(5, "wait ;wait");
        wrongAt(5, "wait  1");
        wrongAt(6, "wait 1x");
        wrongAt(8, "wait 1234");
        wrongAt(5, "wait;;wait");
        wrongAt(5, "wait; wait");
        wrongAt(4, "wait,wait");
        wrongAt(6, "wait;wxit");
        wrongAt(7, "open 12" + (char) 0x0661);
        wrongAt(4, "wait" + (char) 0);
    }

    /** The length of the text, if more characters could make it a program. */
    private static void prefixes() {
        String[] prefixes = {"", "b", "block", "block ", "poin", "point ", "point 1", "point 1>", "point 1>22",
            "point 1>22,", "l", "link 0", "link 0>", "tr", "th", "t", "train 0>", "s", "se", "set", "set ", "sh",
            "f", "free ", "o", "open ", "throw ", "w", "wai", "wait ", "wait;", "wait 12;", "block 1;s"};
        for (String prefix : prefixes) {
            wrongAt(prefix.length(), prefix);
        }
        wrongAt(60, "wait;wait;wait;wait;wait;wait;wait;wait;wait;wait;wait;wait;");
        wrongAt(60, "wait;wait;wait;wait;wait;wait;wait;wait;wait;wait;block 1;bl");
    }

    private static void recorded() {
        InterlockingBox box = Boxes.row(1, 1);
        CHECKS.promise(52);
        CHECKS.throwsOnly(Checks.ELEMENT, box::errorPosition, "errorPosition()");
        CHECKS.promise(53);
        CHECKS.throwsOnly(Checks.ELEMENT, box::failedCommand, "failedCommand()");
        Boxes.errorIn(box, "wait;x");
        CHECKS.due(1, failing(box, "wait;shut 7"), "failedCommand()");
        CHECKS.promise(52);
        CHECKS.due(5, box.errorPosition(), "errorPosition()");
        Boxes.run(box, "wait");
        box.undo();
        CHECKS.due(5, box.errorPosition(), "errorPosition() after undo");
        CHECKS.promise(53);
        CHECKS.due(1, box.failedCommand(), "failedCommand() after undo");
        CHECKS.due(0, failing(box, "shut 7;wait"), "failedCommand()");
        CHECKS.promise(52);
        Boxes.errorIn(box, "y");
        CHECKS.due(0, box.errorPosition(), "errorPosition()");
    }
}
