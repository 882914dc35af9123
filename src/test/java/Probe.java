import java.util.ArrayList;
import java.util.List;

/**
 * Questions about one aspect of a box, which is thrown away afterwards: they may change it. A box answers no more than
 * 512 calls, so that all that there is to ask is put to several boxes that were made by the same calls.
 */
final class Probe {
    private interface Question {
        void ask(InterlockingBox box, StringBuilder answers);
    }

    private static final int BLOCKS = 12;
    private static final int POINTS = 8;
    private static final int UNDOS = 8;
    private static final int NUMBERS = 20;
    private static final int LONGEST_LINE = 60;

    static final List<Probe> ALL = all();

    final Aspect aspect;
    final String name;
    private final Question question;

    private Probe(Aspect aspect, String name, Question question) {
        this.aspect = aspect;
        this.name = name;
        this.question = question;
    }

    String answers(InterlockingBox box) {
        StringBuilder answers = new StringBuilder();
        question.ask(box, answers);
        return answers.toString();
    }

    private static List<Probe> all() {
        List<Probe> all = new ArrayList<>();
        all.add(new Probe(Aspect.STATE, "the state", Probe::askState));
        all.add(new Probe(Aspect.STATE, "the pairs of trains", Probe::askPairs));
        all.add(new Probe(Aspect.STATE, "the next train", Probe::askNextTrain));
        all.add(new Probe(Aspect.STATE, "the minutes to come", Probe::askMinutes));
        for (int i = 0; i < BLOCKS; i++) {
            int from = i;
            all.add(new Probe(Aspect.STATE, "the routes from " + from, (box, answers) -> askRoutes(box, answers, from)));
        }
        for (int i = 1; i <= UNDOS + 1; i++) {
            int times = i;
            all.add(new Probe(Aspect.PAST, times + " times undo()", (box, answers) -> askPast(box, answers, times)));
        }
        all.add(new Probe(Aspect.SAVED, "the saved state", Probe::askSaved));
        all.add(new Probe(Aspect.BUFFER, "the program buffer", Probe::askBuffer));
        all.add(new Probe(Aspect.OUTPUT, "the output line", Probe::askOutput));
        all.add(new Probe(Aspect.ERROR, "the error position", (box, answers) -> add(answers, box::errorPosition)));
        all.add(new Probe(Aspect.FAILED, "the failed command", (box, answers) -> add(answers, box::failedCommand)));
        all.add(new Probe(Aspect.REFUSAL, "the refusal", Probe::askRefusal));
        return all;
    }

    private static void add(StringBuilder answers, Checks.Call call) {
        answers.append(Checks.outcome(call)).append(' ');
    }

    private static void askState(InterlockingBox box, StringBuilder answers) {
        add(answers, box::time);
        add(answers, box::trains);
        add(answers, box::arrived);
        add(answers, box::totalDelay);
        add(answers, box::meanDelay);
        add(answers, box::usedShare);
        add(answers, box::deadlocked);
        add(answers, box::deadlockedByPairs);
        add(answers, box::mostWithoutConflict);
        add(answers, box::mostWithoutConflictBySets);
        add(answers, box::isConsistent);
        answers.append("queue ").append(Boxes.queue(box)).append(' ');
        askLine(box, answers);
        askTrains(box, answers);
    }

    private static void askLine(InterlockingBox box, StringBuilder answers) {
        answers.append("line ");
        add(answers, box::blocks);
        for (int i = 0; i < BLOCKS; i++) {
            int block = i;
            add(answers, () -> box.blockLength(block));
            add(answers, () -> box.blockState(block));
            add(answers, () -> box.trainAt(block));
        }
        for (int i = 0; i < POINTS; i++) {
            int point = i;
            add(answers, () -> box.liesLeft(point));
            add(answers, () -> box.lockedBy(point));
        }
    }

    private static void askTrains(InterlockingBox box, StringBuilder answers) {
        for (int i = 0; i < NUMBERS; i++) {
            int train = i;
            if (box.isPresent(train)) {
                answers.append("train ").append(train).append(' ');
                add(answers, () -> box.blockOf(train));
                add(answers, () -> box.destination(train));
                add(answers, () -> box.hasRoute(train));
                add(answers, () -> box.isClear(train));
                add(answers, () -> box.minutesUntilNext(train));
                add(answers, () -> box.minutesUntilArrival(train));
                add(answers, () -> box.minutesUntilArrivalByPassing(train));
                add(answers, () -> box.delay(train));
            }
        }
    }

    private static void askPairs(InterlockingBox box, StringBuilder answers) {
        List<Integer> present = new ArrayList<>();
        for (int i = 0; i < NUMBERS; i++) {
            if (box.isPresent(i)) {
                present.add(i);
            }
        }
        for (int train : present) {
            for (int other : present) {
                add(answers, () -> box.waitsFor(train, other));
                add(answers, () -> box.conflict(train, other));
            }
        }
    }

    private static void askRoutes(InterlockingBox box, StringBuilder answers, int from) {
        for (int i = 0; i < BLOCKS; i++) {
            int to = i;
            add(answers, () -> box.paths(from, to));
            add(answers, () -> box.routeLength(from, to));
            add(answers, () -> box.routeLengthByPaths(from, to));
            for (int p = 0; p < BLOCKS; p++) {
                int position = p;
                add(answers, () -> box.routeBlock(from, to, position));
            }
        }
    }

    private static void askNextTrain(InterlockingBox box, StringBuilder answers) {
        for (int i = 0; i < BLOCKS; i++) {
            int block = i;
            add(answers, () -> box.addTrain(block, (block + 1) % BLOCKS));
            add(answers, () -> box.addTrain(block, 0));
        }
    }

    private static void askMinutes(InterlockingBox box, StringBuilder answers) {
        for (int minutes = 1; minutes < 8; minutes++) {
            box.pass(minutes);
            answers.append(Boxes.blocks(box)).append(' ').append(Boxes.queue(box)).append(' ');
        }
    }

    private static void askPast(InterlockingBox box, StringBuilder answers, int times) {
        for (int i = 0; i < times; i++) {
            add(answers, box::undo);
        }
        askState(box, answers);
    }

    private static void askSaved(InterlockingBox box, StringBuilder answers) {
        add(answers, box::restore);
        askState(box, answers);
        add(answers, box::undo);
    }

    /** A buffer that holds "wai" becomes a program by the sign that is typed. */
    private static void askBuffer(InterlockingBox box, StringBuilder answers) {
        add(answers, () -> box.type('t'));
        add(answers, box::run);
        add(answers, box::errorPosition);
        add(answers, box::failedCommand);
    }

    private static void askOutput(InterlockingBox box, StringBuilder answers) {
        for (int i = 0; i < LONGEST_LINE; i++) {
            int index = i;
            add(answers, () -> box.charAt(index));
        }
    }

    private static void askRefusal(InterlockingBox box, StringBuilder answers) {
        add(answers, box::refusalReason);
        add(answers, box::refusalBlock);
    }
}
