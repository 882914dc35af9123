import java.util.List;

/** Promises 50 to 53 and what "Terms" says of programs, each sentence at its boundaries. */
final class ProgramSentences {
    private static final String ELEVEN_WAITS = "wait;wait;wait;wait;wait;wait;wait;wait;wait;wait;wait;";
    private static final int BUFFER = 60;
    private static final int NONE = -1;

    private ProgramSentences() {
    }

    static void addTo(Suite suite) {
        addTyping(suite);
        addRunning(suite);
        addRecords(suite);
        addGrammar(suite);
        suite.term("The commands correspond to addBlock(length), addPoint(stem, left, right), addLink(from, to), "
                + "addTrain(block, destination), setRoute(train), releaseRoute(train), shut(block), open(block), "
                + "throwPoint(point) and pass(minutes), where \"wait\" without a number means one minute.",
                ProgramSentences::commandsAndCalls);
        suite.term("The error position of a text that is not a program is the index of the first character at which no "
                + "program can continue, or the length of the text if the text is a proper prefix of a program.",
                ProgramSentences::errorPositions);
    }

    /** A box in which a command of each kind can be carried out, and in which no train 3 has come. */
    private static InterlockingBox ready() {
        InterlockingBox box = Boxes.withBlocks(1, 2, 1, 1, 1, 1, 1);
        box.addPoint(0, 1, 2);
        box.addLink(4, 5);
        box.addTrain(0, 1);
        box.addTrain(4, 5);
        box.addTrain(6, 0);
        box.setRoute(1);
        box.shut(3);
        return box;
    }

    private static InterlockingBox typed(InterlockingBox box, String text) {
        Boxes.type(box, text);
        return box;
    }

    private static void addTyping(Suite suite) {
        suite.promise(50, "Appends a character to the program buffer.", ProgramSentences::appends);
        suite.promise(50, "`character`: any character", ProgramSentences::anyCharacter);
        suite.promise(50, "Returns the number of characters in the buffer afterwards.",
                ProgramSentences::numberOfCharacters);
        suite.promise(50, "Throws `IllegalStateException` if the buffer contains 60 characters",
                ProgramSentences::fullBuffer);
    }

    private static void appends(Checks checks) {
        InterlockingBox box = new InterlockingBox();
        for (char sign : "block 7".toCharArray()) {
            box.type(sign);
        }
        checks.due(0, box.blocks(), "blocks() before run()");
        checks.due(1, box.run(), "run()");
        checks.due(7, box.blockLength(0), "blockLength(0)");
    }

    private static void anyCharacter(Checks checks) {
        int[] signs = {0, 1, 127, 128, 255, 256, 0x7FFF, 0x8000, 0xD800, 0xDFFF, 0xFFFE, 0xFFFF, '\n', ' ', ';'};
        for (int sign : signs) {
            InterlockingBox box = typed(new InterlockingBox(), "wait");
            checks.due(5, box.type((char) sign), "type of sign " + sign);
            checks.throwsOnly(Checks.ARGUMENT, box::run, "run() with sign " + sign);
            checks.due(sign == ' ' || sign == ';' ? 5 : 4, box.errorPosition(), "errorPosition() with sign " + sign);
        }
        for (char sign : "wait 1".toCharArray()) {
            for (int cut : new int[] {128, 256, 0x8000}) {
                InterlockingBox box = new InterlockingBox();
                String text = "wait 1".replace(sign, (char) (sign + cut));
                checks.due(text.indexOf((char) (sign + cut)), Boxes.errorIn(box, text), "a text with " + (sign + cut));
            }
        }
    }

    private static void numberOfCharacters(Checks checks) {
        InterlockingBox box = new InterlockingBox();
        for (int i = 1; i <= BUFFER; i++) {
            checks.due(i, box.type('x'), "type");
        }
        Checks.thrownBy(box::run);
        checks.due(1, box.type('x'), "type after run()");
    }

    private static void fullBuffer(Checks checks) {
        String text = ELEVEN_WAITS + "set 0";
        checks.due(BUFFER, text.length(), "the length of the text");
        InterlockingBox inside = typed(ready(), text.substring(0, BUFFER - 1));
        checks.due(BUFFER, inside.type('0'), "type as the sixtieth");
        Checks.Recipe full = () -> typed(ready(), text);
        checks.refuses(full, Checks.STATE, box -> box.type('1'), "type as the sixty-first");
        checks.refuses(full, Checks.STATE, box -> box.type((char) 0), "type of sign 0 as the sixty-first");
        InterlockingBox refused = full.make();
        Checks.thrownBy(() -> refused.type('1'));
        checks.throwsOnly(Checks.REFUSED, refused::run, "run() of the sixty characters");
        checks.due(11, refused.failedCommand(), "failedCommand()");
        checks.due(1, refused.type('1'), "type after run()");
    }

    private static void addRunning(Suite suite) {
        suite.promise(51, "Parses the program buffer and executes the commands in order, either all of them or, if one of "
                + "them fails, none.", ProgramSentences::allOrNone);
        suite.promise(51, "The buffer is empty afterwards in every case.", ProgramSentences::emptiesTheBuffer);
        suite.promise(51, "Returns the number of commands.", ProgramSentences::numberOfCommands);
        suite.promise(51, "Throws `IllegalArgumentException` if the text is not a program; its error position is "
                + "recorded", ProgramSentences::notAProgram);
        suite.promise(51, "Throws `UnsupportedOperationException` if a command fails, that is, if the method for it "
                + "throws an exception; the number of this command, counted from 0, is recorded",
                ProgramSentences::commandFails);
    }

    private static void allOrNone(Checks checks) {
        InterlockingBox box = new InterlockingBox();
        checks.due(6, Boxes.run(box, "block 3;block 4;link 0>1;train 0>1;set 0;wait 3"), "run() of all");
        checks.due("o0r0", Boxes.blocks(box), "the blocks");
        checks.due(3, box.time(), "time()");
        for (int failing = 0; failing < 5; failing++) {
            String[] commands = {"block 1", "free 0", "wait", "shut 0", "wait 9"};
            commands[failing] = "set 9";
            String text = String.join(";", commands);
            Checks.Recipe recipe = () -> typed(afterProgram(), text);
            checks.refuses(recipe, Checks.REFUSED, InterlockingBox::run, text, Aspect.BUFFER, Aspect.FAILED);
        }
        InterlockingBox order = Boxes.ones(2);
        checks.throwsOnly(Checks.REFUSED, () -> Boxes.run(order, "open 0;shut 0"), "commands in the wrong order");
        checks.due(2, Boxes.run(order, "shut 0;open 0"), "commands in the right order");
    }

    private static InterlockingBox afterProgram() {
        InterlockingBox box = new InterlockingBox();
        Boxes.run(box, "block 3;block 4;link 0>1;train 0>1;set 0;wait 3");
        box.save();
        box.writeBlocks();
        return box;
    }

    private static void emptiesTheBuffer(Checks checks) {
        String[] texts = {"", "wait", "wait;", "x", "set 9", "wait;set 9", ELEVEN_WAITS + "wait", ELEVEN_WAITS + "set 9"};
        for (String text : texts) {
            InterlockingBox box = typed(ready(), text);
            Checks.thrownBy(box::run);
            checks.due(1, box.type('w'), "type after the program " + text);
            Boxes.type(box, "ait");
            checks.due(1, box.run(), "run() after the program " + text);
            checks.throwsOnly(Checks.ARGUMENT, box::run, "run() of nothing after the program " + text);
            checks.due(0, box.errorPosition(), "errorPosition() of nothing");
        }
    }

    private static void numberOfCommands(Checks checks) {
        StringBuilder text = new StringBuilder("wait");
        for (int i = 1; i <= 12; i++) {
            checks.due(i, Boxes.run(new InterlockingBox(), text.toString()), "run() of " + i + " commands");
            text.append(";wait");
        }
        String longest = "wait;wait;wait;wait;wait;wait;wait;wait;wait;wait 1;wait 123";
        checks.due(BUFFER, longest.length(), "the length of the longest program");
        InterlockingBox box = new InterlockingBox();
        checks.due(11, Boxes.run(box, longest), "run() of the longest program");
        checks.due(133, box.time(), "time()");
    }

    private static void notAProgram(Checks checks) {
        String[] texts = {"", "w", "wait;", ";", "wait 1234", "block 10", "shut 3;x", "block", ELEVEN_WAITS + "wait;"};
        int[] positions = {0, 1, 5, 0, 8, 7, 7, 5, 60};
        for (int i = 0; i < texts.length; i++) {
            String text = texts[i];
            Checks.Recipe recipe = () -> {
                InterlockingBox box = ready();
                Checks.thrownBy(() -> Boxes.run(box, "wait;set 9"));
                box.save();
                box.writeBlocks();
                return typed(box, text);
            };
            checks.refuses(recipe, Checks.ARGUMENT, InterlockingBox::run, "run() of " + text, Aspect.BUFFER, Aspect.ERROR);
            InterlockingBox box = recipe.make();
            Checks.thrownBy(box::run);
            checks.due(positions[i], box.errorPosition(), "errorPosition() of " + text);
            checks.due(1, box.failedCommand(), "failedCommand() of a program before");
        }
    }

    private static void commandFails(Checks checks) {
        String[] failing = {"block 0", "point 0>1,2", "point 9>1,2", "point 6>1,1", "link 4>0", "link 3>3", "link 3>7",
            "train 0>1", "train 1>1", "train 7>1", "train 3>1", "set 1", "set 3", "set 2", "free 0", "free 3", "shut 3",
            "shut 5", "shut 7", "open 0", "open 7", "throw 1", "wait 0", "wait 241", "wait 999"};
        for (String command : failing) {
            Aspect[] changed = command.equals("set 2")
                    ? new Aspect[] {Aspect.BUFFER, Aspect.FAILED, Aspect.REFUSAL}
                    : new Aspect[] {Aspect.BUFFER, Aspect.FAILED};
            checks.refuses(() -> typed(ready(), command), Checks.REFUSED, InterlockingBox::run, command, changed);
            failsAs(checks, 0, command + ";wait");
            failsAs(checks, 1, "throw 0;" + command);
            failsAs(checks, 2, "throw 0;throw 0;" + command + ";wait");
        }
        failsAs(checks, 11, ELEVEN_WAITS + "set 9");
        failsAs(checks, 10, ELEVEN_WAITS.substring(5) + "set 9;wait");
        failsAs(checks, 1, "set 0;throw 0");
        InterlockingBox box = ready();
        checks.due(1, Boxes.run(box, "wait 240"), "wait 240");
        checks.due(1, Boxes.run(box, "wait 1"), "wait 1");
    }

    private static void failsAs(Checks checks, int number, String text) {
        InterlockingBox box = ready();
        checks.throwsOnly(Checks.REFUSED, () -> Boxes.run(box, text), text);
        checks.due(number, box.failedCommand(), "failedCommand() of " + text);
        checks.throwsOnly(Checks.ELEMENT, box::errorPosition, "errorPosition() after " + text);
    }

    private static void addRecords(Suite suite) {
        suite.promise(52, "Returns the recorded error position of the latest text that was not a program.",
                ProgramSentences::latestError);
        suite.promise(52, "Throws `NoSuchElementException` if there was no such text", ProgramSentences::noError);
        suite.promise(53, "Returns the recorded number of the latest command that failed in a program.",
                ProgramSentences::latestFailure);
        suite.promise(53, "Throws `NoSuchElementException` if no command failed", ProgramSentences::noFailure);
    }

    private static void latestError(Checks checks) {
        InterlockingBox box = ready();
        Boxes.errorIn(box, "wait;x");
        checks.due(5, box.errorPosition(), "errorPosition()");
        Boxes.run(box, "wait");
        checks.due(5, box.errorPosition(), "errorPosition() after a program");
        Checks.thrownBy(() -> Boxes.run(box, "wait;wait;set 9"));
        checks.due(5, box.errorPosition(), "errorPosition() after a program that failed");
        Boxes.errorIn(box, "");
        checks.due(0, box.errorPosition(), "errorPosition() of the text after it");
        Boxes.errorIn(box, ELEVEN_WAITS + "wait;");
        checks.due(60, box.errorPosition(), "errorPosition() of the longest text");
        checks.due(60, box.errorPosition(), "errorPosition() again");
    }

    private static void noError(Checks checks) {
        checks.refuses(InterlockingBox::new, Checks.ELEMENT, InterlockingBox::errorPosition, "errorPosition()");
        Checks.Recipe programs = () -> {
            InterlockingBox box = ready();
            Boxes.run(box, "wait");
            Checks.thrownBy(() -> Boxes.run(box, "wait;set 9"));
            return typed(box, "x");
        };
        checks.refuses(programs, Checks.ELEMENT, InterlockingBox::errorPosition, "errorPosition() before run()");
        InterlockingBox box = programs.make();
        Checks.thrownBy(box::run);
        checks.due(0, box.errorPosition(), "errorPosition() after run()");
    }

    private static void latestFailure(Checks checks) {
        InterlockingBox box = ready();
        Checks.thrownBy(() -> Boxes.run(box, "wait;wait;set 9"));
        checks.due(2, box.failedCommand(), "failedCommand()");
        Boxes.run(box, "wait");
        checks.due(2, box.failedCommand(), "failedCommand() after a program");
        Boxes.errorIn(box, "wait;x");
        checks.due(2, box.failedCommand(), "failedCommand() after a text that is no program");
        Checks.thrownBy(() -> box.setRoute(9));
        checks.due(2, box.failedCommand(), "failedCommand() after a call that was refused");
        Checks.thrownBy(() -> Boxes.run(box, "set 9;set 9"));
        checks.due(0, box.failedCommand(), "failedCommand() of the program after it");
        Checks.thrownBy(() -> Boxes.run(box, ELEVEN_WAITS + "set 9"));
        checks.due(11, box.failedCommand(), "failedCommand() of the longest program");
    }

    private static void noFailure(Checks checks) {
        checks.refuses(InterlockingBox::new, Checks.ELEMENT, InterlockingBox::failedCommand, "failedCommand()");
        Checks.Recipe texts = () -> {
            InterlockingBox box = ready();
            Boxes.run(box, "wait");
            Boxes.errorIn(box, "wait;x");
            Checks.thrownBy(() -> box.setRoute(9));
            return typed(box, "set 9");
        };
        checks.refuses(texts, Checks.ELEMENT, InterlockingBox::failedCommand, "failedCommand() before run()");
        InterlockingBox box = texts.make();
        Checks.thrownBy(box::run);
        checks.due(0, box.failedCommand(), "failedCommand() after run()");
    }

    private static void addGrammar(Suite suite) {
        suite.term("A program is a text with the following grammar, in which braces mean zero or more repetitions, "
                + "brackets mean an optional part, parentheses group, and a vertical bar separates alternatives.",
                ProgramSentences::repetitionsAndOptions);
        suite.term("`program = command { \";\" command`}", ProgramSentences::programs);
        suite.term("`command = \"block \" digit | \"point \" number \">\" number \",\" number | \"link \" number \">\" "
                + "number | \"train \" number \">\" number | \"set \" number | \"free \" number | \"shut \" number | "
                + "\"open \" number | \"throw \" digit | \"wait\" [ \" \" number ]`", ProgramSentences::commands);
        suite.term("`number = digit [ digit [ digit ] ]`", ProgramSentences::numbers);
    }

    /** The error position must be this, or NONE if the text is a program, whether or not a command of it fails. */
    private static void error(Checks checks, int position, String text) {
        InterlockingBox box = ready();
        checks.due(position, Boxes.errorIn(box, text), "the error position of <" + text + ">");
        if (position == NONE) {
            checks.throwsOnly(Checks.ELEMENT, box::errorPosition, "errorPosition() after <" + text + ">");
        }
    }

    private static void repetitionsAndOptions(Checks checks) {
        error(checks, NONE, "wait");
        error(checks, NONE, "wait;wait");
        error(checks, NONE, "wait;wait;wait");
        error(checks, NONE, "wait 1");
        error(checks, NONE, "wait 1;wait");
        error(checks, NONE, "wait;wait 1");
        error(checks, 4, "wait[ 1]");
        error(checks, 4, "wait|wait");
        error(checks, 4, "wait{;wait}");
        error(checks, 0, "(wait)");
    }

    private static void programs(Checks checks) {
        error(checks, 0, "");
        error(checks, 0, ";");
        error(checks, 0, ";wait");
        error(checks, 5, "wait;");
        error(checks, 5, "wait;;wait");
        error(checks, 4, "wait,wait");
        error(checks, 4, "wait:wait");
        error(checks, 4, "waitwait");
        error(checks, 5, "wait ;wait");
        error(checks, 5, "wait; wait");
        error(checks, 0, " wait");
        error(checks, 5, "wait ");
        error(checks, NONE, ELEVEN_WAITS + "wait");
        error(checks, 55, ELEVEN_WAITS);
        error(checks, 60, ELEVEN_WAITS + "wait;");
        error(checks, 60, ELEVEN_WAITS + "wait ");
        error(checks, 59, ELEVEN_WAITS + "waits");
        error(checks, NONE, ELEVEN_WAITS + "set 9");
    }

    private static void commands(Checks checks) {
        String[] forms = {"block 1", "point 1>2,3", "link 1>2", "train 1>2", "set 1", "free 1", "shut 1", "open 1",
            "throw 1", "wait 1"};
        for (String form : forms) {
            error(checks, NONE, form);
            error(checks, form.length(), form + "x");
            error(checks, form.length(), form + " ");
            error(checks, 0, form.toUpperCase());
            for (int length = 0; length < form.length(); length++) {
                String prefix = form.substring(0, length);
                error(checks, prefix.equals("wait") ? NONE : length, prefix);
                error(checks, length, prefix + "?");
            }
        }
        error(checks, 7, "block 12");
        error(checks, 7, "throw 12");
        error(checks, 7, "point 1,2>3");
        error(checks, 9, "point 1>2>3");
        error(checks, 11, "point 1>2,3,4");
        error(checks, 6, "link 1,2");
        error(checks, 8, "link 1>2>3");
        error(checks, 9, "train 1>2,3");
        error(checks, 6, "block -1");
        error(checks, 5, "wait +1");
    }

    private static void numbers(Checks checks) {
        String[] before = {"point ", "point 1>", "point 1>2,", "link ", "link 1>", "train ", "train 1>", "set ", "free ",
            "shut ", "open ", "wait "};
        String[] behind = {">2,3", ",3", "", ">2", "", ">2", "", "", "", "", "", ""};
        for (int i = 0; i < before.length; i++) {
            int start = before[i].length();
            error(checks, start, before[i]);
            error(checks, start, before[i] + behind[i] + "x");
            error(checks, NONE, before[i] + "0" + behind[i]);
            error(checks, NONE, before[i] + "10" + behind[i]);
            error(checks, NONE, before[i] + "999" + behind[i]);
            error(checks, NONE, before[i] + "000" + behind[i]);
            error(checks, start + 3, before[i] + "1000" + behind[i]);
            error(checks, start + 3, before[i] + "0001" + behind[i]);
            error(checks, start + 1, before[i] + "1x" + behind[i]);
            error(checks, start, before[i] + "/" + behind[i]);
            error(checks, start, before[i] + ":" + behind[i]);
        }
        InterlockingBox box = Boxes.ones(12);
        Boxes.run(box, "wait 009;shut 011;shut 000;shut 9;shut 10;wait 100");
        checks.due("sffffffffsss", Boxes.blocks(box), "the blocks with numbers of one, two and three digits");
        checks.due(109, box.time(), "time() with numbers of three digits");
    }

    private static void same(Checks checks, String text, Checks.Use use) {
        for (Probe probe : Probe.ALL) {
            InterlockingBox called = ready();
            use.of(called);
            InterlockingBox run = ready();
            checks.due(1, Boxes.run(run, text), text);
            checks.due(probe.answers(called), probe.answers(run), probe.name + " after " + text);
        }
    }

    private static void commandsAndCalls(Checks checks) {
        same(checks, "block 1", box -> box.addBlock(1));
        same(checks, "block 9", box -> box.addBlock(9));
        same(checks, "point 2>5,3", box -> box.addPoint(2, 5, 3));
        same(checks, "link 2>6", box -> box.addLink(2, 6));
        same(checks, "train 1>4", box -> box.addTrain(1, 4));
        same(checks, "set 0", box -> box.setRoute(0));
        same(checks, "free 1", box -> box.releaseRoute(1));
        same(checks, "shut 0", box -> box.shut(0));
        same(checks, "open 3", box -> box.open(3));
        same(checks, "throw 0", box -> box.throwPoint(0));
        same(checks, "wait", box -> box.pass(1));
        same(checks, "wait 1", box -> box.pass(1));
        same(checks, "wait 2", box -> box.pass(2));
        same(checks, "wait 240", box -> box.pass(240));
    }

    private static void errorPositions(Checks checks) {
        String program = "block 1;point 10>2,345;wait 12;throw 3;wait";
        List<Integer> endsOfPrograms = List.of(7, 20, 21, 22, 27, 29, 30, 38, 43);
        for (int length = 0; length <= program.length(); length++) {
            String prefix = program.substring(0, length);
            error(checks, endsOfPrograms.contains(length) ? NONE : length, prefix);
            error(checks, length, prefix + "~");
            error(checks, length, prefix + "~" + program.substring(length));
        }
        String[] texts = {"tx", "trx", "thx", "thrown", "sx", "sex", "sett", "shx", "shun", "fr33", "openn", "blockk",
            "points", "linx", "wait\t", "set 1234", "set 12x", "wait 1234", "link 0>1>", "link 0>>1", "block 1,"};
        int[] positions = {1, 2, 2, 5, 1, 2, 3, 2, 3, 2, 4, 5, 5, 3, 4, 7, 6, 8, 8, 7, 7};
        for (int i = 0; i < texts.length; i++) {
            error(checks, positions[i], texts[i]);
            String behind = "wait;wait 240;" + texts[i];
            error(checks, positions[i] + 14, behind);
        }
    }
}
