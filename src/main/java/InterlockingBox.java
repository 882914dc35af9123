import java.util.Arrays;
import java.util.NoSuchElementException;

/**
 * A signal box of a small railway with blocks, points and signals.
 * Sets of blocks or trains are ints with one bit for each member.
 */
public final class InterlockingBox {
    private static final int MOST_BLOCKS = 12;
    private static final int MOST_POINTS = 8;
    private static final int MOST_TRAINS = 8;
    private static final int MOST_UNDOS = 8;
    private static final int LONGEST_BLOCK = 9;
    private static final int LONGEST_PASS = 240;
    private static final int LONGEST_JOURNEY = MOST_BLOCKS * LONGEST_BLOCK;
    private static final int BUFFER_SIZE = 60;
    /** The shortest command with its semicolon is "wait;", and behind the last one that fits another one is begun. */
    private static final int MOST_COMMANDS = BUFFER_SIZE / 5 + 1;
    private static final int MOST_NUMBERS = 3;
    private static final int MOST_DIGITS = 3;

    /** Stands for a block, number or position that there is not. */
    private static final int NONE = -1;

    /** What a change of a state answers, in place of its result, when it may not be. */
    private static final int NO_SUCH_INDEX = -1;
    private static final int BAD_ARGUMENT = -2;
    private static final int BAD_STATE = -3;
    private static final int NO_SUCH_TRAIN = -4;
    private static final int ROUTE_REFUSED = -5;

    private static final char NO_REASON = 0;
    private static final char NO_ROUTE = 'n';

    private static final Command[] COMMANDS = Command.values();

    private final State now = new State();
    private final State saved = new State();
    private final State copy = new State();
    private final History history = new History();
    private final Relation relation = new Relation();
    private final Program program = new Program();
    private final StringBuilder output = new StringBuilder();
    private boolean anySaved = false;
    private char recordedReason = NO_REASON;
    private int recordedBlock = NONE;
    private int recordedPosition = NONE;
    private int recordedCommand = NONE;

    public InterlockingBox() {
    }

    // ---- the line

    public int addBlock(int length) throws IllegalArgumentException, IllegalStateException {
        history.keep(now);
        return settle(now.line.makeBlock(length));
    }

    public int addPoint(int stem, int left, int right)
            throws IndexOutOfBoundsException, IllegalArgumentException, IllegalStateException {
        history.keep(now);
        return settle(now.line.makePoint(stem, left, right));
    }

    public int addLink(int from, int to)
            throws IndexOutOfBoundsException, IllegalArgumentException, IllegalStateException {
        history.keep(now);
        return settle(now.line.makeLink(from, to));
    }

    public int shut(int block) throws IndexOutOfBoundsException, IllegalStateException {
        history.keep(now);
        return settle(now.shutBlock(block));
    }

    public int open(int block) throws IndexOutOfBoundsException, IllegalStateException {
        history.keep(now);
        return settle(now.openBlock(block));
    }

    public boolean throwPoint(int point) throws IndexOutOfBoundsException, IllegalStateException {
        history.keep(now);
        return settle(now.movePoint(point)) == 1;
    }

    // ---- trains

    public int addTrain(int block, int destination)
            throws IndexOutOfBoundsException, IllegalArgumentException, IllegalStateException {
        history.keep(now);
        return settle(now.bringTrain(block, destination));
    }

    public int setRoute(int train)
            throws NoSuchElementException, IllegalStateException, UnsupportedOperationException {
        history.keep(now);
        return settle(grantOrRecord(train));
    }

    public int releaseRoute(int train) throws NoSuchElementException, IllegalStateException {
        history.keep(now);
        return settle(now.withdrawRoute(train));
    }

    public int pass(int minutes) throws IllegalArgumentException {
        history.keep(now);
        return settle(now.letPass(minutes));
    }

    // ---- properties of the line

    public int blocks() {
        return now.line.blocks;
    }

    public int blockLength(int block) throws IndexOutOfBoundsException {
        checkBlock(block);
        return now.line.lengthOf(block);
    }

    public char blockState(int block) throws IndexOutOfBoundsException {
        checkBlock(block);
        return now.stateOf(block);
    }

    public int trainAt(int block) throws IndexOutOfBoundsException, NoSuchElementException {
        checkBlock(block);
        int holder = now.holderOf(block);
        if (holder == NONE) {
            throw new NoSuchElementException("no train occupies or has reserved the block");
        }
        return holder;
    }

    public boolean liesLeft(int point) throws IndexOutOfBoundsException {
        checkPoint(point);
        return now.line.pointsLeft(point);
    }

    public int lockedBy(int point) throws IndexOutOfBoundsException, NoSuchElementException {
        checkPoint(point);
        int locker = now.lockerOf(point);
        if (locker == NONE) {
            throw new NoSuchElementException("the point is not locked");
        }
        return locker;
    }

    // ---- routes

    public int routeLength(int from, int to) throws IndexOutOfBoundsException, NoSuchElementException {
        checkRoute(from, to);
        return now.line.totalLength(now.line.routeBlocks(from, to));
    }

    public int routeLengthByPaths(int from, int to) throws IndexOutOfBoundsException, NoSuchElementException {
        checkBlock(from);
        checkBlock(to);
        int length = now.line.shortestPath(from, to);
        if (length == NONE) {
            throw new NoSuchElementException("there is no route");
        }
        return length;
    }

    public int routeBlock(int from, int to, int position)
            throws IndexOutOfBoundsException, NoSuchElementException {
        checkRoute(from, to);
        int block = now.line.blockOnRoute(from, to, position);
        if (block == NONE) {
            throw new NoSuchElementException("the route has no such position");
        }
        return block;
    }

    public int paths(int from, int to) throws IndexOutOfBoundsException {
        checkBlock(from);
        checkBlock(to);
        return now.line.numberOfPaths(from, to);
    }

    // ---- properties of trains

    public int trains() {
        return now.present;
    }

    public boolean isPresent(int train) {
        return now.find(train) != null;
    }

    public int blockOf(int train) throws NoSuchElementException {
        return presentTrain(train).block;
    }

    public int destination(int train) throws NoSuchElementException {
        return presentTrain(train).destination;
    }

    public boolean hasRoute(int train) throws NoSuchElementException {
        return presentTrain(train).isRouted();
    }

    public boolean isClear(int train) throws NoSuchElementException {
        return now.canSet(presentTrain(train));
    }

    public int minutesUntilNext(int train) throws NoSuchElementException {
        return routedTrain(train).nextMinute - now.time;
    }

    public int minutesUntilArrival(int train) throws NoSuchElementException {
        return now.minutesToGo(routedTrain(train));
    }

    public int minutesUntilArrivalByPassing(int train) throws NoSuchElementException {
        int number = routedTrain(train).number;
        copy.copyFrom(now);
        int minutes = 0;
        for (int i = 0; i < LONGEST_JOURNEY && copy.find(number) != null; i++) {
            copy.passMinute();
            minutes++;
        }
        return minutes;
    }

    public int delay(int train) throws NoSuchElementException {
        return presentTrain(train).delay;
    }

    public int queued(int position) throws NoSuchElementException {
        int number = now.inQueue(position);
        if (number == NONE) {
            throw new NoSuchElementException("the queue has no such position");
        }
        return number;
    }

    // ---- waiting and conflicts

    public boolean waitsFor(int train, int other) throws NoSuchElementException {
        Train waiting = presentTrain(train);
        Train holding = presentTrain(other);
        return train != other && now.waits(waiting, holding);
    }

    public int deadlocked() {
        now.relateWaiting(relation);
        return relation.inCircles();
    }

    public int deadlockedByPairs() {
        now.relateWaiting(relation);
        return relation.inCirclesByPairs();
    }

    public boolean conflict(int train, int other) throws NoSuchElementException, IllegalArgumentException {
        Train one = presentTrain(train);
        Train two = presentTrain(other);
        if (train == other) {
            throw new IllegalArgumentException("a train and itself");
        }
        return now.routesMeet(one, two);
    }

    public int mostWithoutConflict() {
        now.relateConflicts(relation);
        return relation.mostUnrelated();
    }

    public int mostWithoutConflictBySets() {
        now.relateConflicts(relation);
        return relation.mostUnrelatedBySets();
    }

    public char refusalReason() throws NoSuchElementException {
        if (recordedReason == NO_REASON) {
            throw new NoSuchElementException("no route was refused");
        }
        return recordedReason;
    }

    public int refusalBlock() throws NoSuchElementException {
        if (recordedBlock == NONE) {
            throw new NoSuchElementException("no route was refused for a block");
        }
        return recordedBlock;
    }

    // ---- sums

    public int time() {
        return now.time;
    }

    public int arrived() {
        return now.gone;
    }

    public long totalDelay() {
        return now.allDelays;
    }

    public double meanDelay() throws ArithmeticException {
        if (now.come == 0) {
            throw new ArithmeticException("no train has come");
        }
        return (double) now.allDelays / (double) now.come;
    }

    public float usedShare() throws ArithmeticException {
        if (now.line.blocks == 0) {
            throw new ArithmeticException("there are no blocks");
        }
        return (float) Integer.bitCount(now.held()) / (float) now.line.blocks;
    }

    public boolean isConsistent() {
        return Invariants.hold(now);
    }

    // ---- output

    public int writeBlocks() {
        output.setLength(0);
        for (int block = 0; block < now.line.blocks; block++) {
            char state = now.stateOf(block);
            output.append(state);
            if (state == 'o' || state == 'r') {
                output.append(now.holderOf(block));
            }
        }
        return output.length();
    }

    public int writeTrain(int train) throws NoSuchElementException {
        Train shown = presentTrain(train);
        output.setLength(0);
        output.append(shown.number).append('@').append(shown.block);
        if (shown.isRouted()) {
            writeRestOfRoute(shown);
        } else {
            output.append('?').append(shown.destination);
        }
        return output.length();
    }

    public char charAt(int index) throws IndexOutOfBoundsException {
        if (index < 0 || index >= output.length()) {
            throw new IndexOutOfBoundsException("not in the output line");
        }
        return output.charAt(index);
    }

    // ---- programs

    public int type(char character) throws IllegalStateException {
        if (!program.append(character)) {
            throw new IllegalStateException("the program buffer is full");
        }
        return program.length;
    }

    public int run() throws IllegalArgumentException, UnsupportedOperationException {
        boolean isProgram = program.parse();
        program.clear();
        if (!isProgram) {
            recordedPosition = program.stop;
            throw new IllegalArgumentException("not a program");
        }
        history.keep(now);
        for (int i = 0; i < program.count; i++) {
            if (execute(i) < 0) {
                history.putBack(now);
                recordedCommand = i;
                throw new UnsupportedOperationException("a command failed");
            }
        }
        return settle(program.count);
    }

    public int errorPosition() throws NoSuchElementException {
        if (recordedPosition == NONE) {
            throw new NoSuchElementException("every text was a program");
        }
        return recordedPosition;
    }

    public int failedCommand() throws NoSuchElementException {
        if (recordedCommand == NONE) {
            throw new NoSuchElementException("no command failed");
        }
        return recordedCommand;
    }

    // ---- undo and snapshots

    public int undo() throws IllegalStateException {
        if (!history.takeBack(now)) {
            throw new IllegalStateException("no change can be undone");
        }
        return history.count;
    }

    public int save() {
        saved.copyFrom(now);
        anySaved = true;
        return now.present;
    }

    public int restore() throws IllegalStateException {
        if (!anySaved) {
            throw new IllegalStateException("no state was saved");
        }
        now.copyFrom(saved);
        history.forget();
        return now.present;
    }

    // ---- helpers

    /** Ends a change: a result is kept as the latest change, anything else is thrown. */
    private int settle(int answer) {
        if (answer < 0) {
            throwFor(answer);
        }
        history.commit();
        return answer;
    }

    private static void throwFor(int answer) {
        if (answer == NO_SUCH_INDEX) {
            throw new IndexOutOfBoundsException("no such block or point");
        }
        if (answer == BAD_ARGUMENT) {
            throw new IllegalArgumentException("out of range, or not different");
        }
        if (answer == NO_SUCH_TRAIN) {
            throw new NoSuchElementException("no such train");
        }
        if (answer == ROUTE_REFUSED) {
            throw new UnsupportedOperationException("the route cannot be set");
        }
        throw new IllegalStateException("not in this state");
    }

    private void checkBlock(int block) {
        if (!now.line.has(block)) {
            throw new IndexOutOfBoundsException("no such block");
        }
    }

    private void checkPoint(int point) {
        if (!now.line.hasPoint(point)) {
            throw new IndexOutOfBoundsException("no such point");
        }
    }

    private void checkRoute(int from, int to) {
        checkBlock(from);
        checkBlock(to);
        if (from != to && now.line.routeBlocks(from, to) == 0) {
            throw new NoSuchElementException("there is no route");
        }
    }

    private Train presentTrain(int number) {
        Train train = now.find(number);
        if (train == null) {
            throw new NoSuchElementException("no such train");
        }
        return train;
    }

    private Train routedTrain(int number) {
        Train train = presentTrain(number);
        if (!train.isRouted()) {
            throw new NoSuchElementException("the train has no set route");
        }
        return train;
    }

    private void writeRestOfRoute(Train train) {
        int block = train.block;
        for (int i = 0; i < MOST_BLOCKS && block != train.destination; i++) {
            block = now.line.exitOf(block);
            output.append('>').append(block);
        }
    }

    private int grantOrRecord(int number) {
        int answer = now.grantRoute(number);
        if (answer == ROUTE_REFUSED) {
            recordRefusal(now.find(number));
        }
        return answer;
    }

    private void recordRefusal(Train train) {
        if (train != null) {
            recordedBlock = now.firstNotFree(train);
            recordedReason = recordedBlock == NONE ? NO_ROUTE : now.stateOf(recordedBlock);
        }
    }

    private int execute(int command) {
        int first = program.number(command, 0);
        int second = program.number(command, 1);
        int third = program.number(command, 2);
        switch (program.command(command)) {
            case BLOCK:
                return now.line.makeBlock(first);
            case POINT:
                return now.line.makePoint(first, second, third);
            case LINK:
                return now.line.makeLink(first, second);
            case TRAIN:
                return now.bringTrain(first, second);
            case SET:
                return grantOrRecord(first);
            case FREE:
                return now.withdrawRoute(first);
            case SHUT:
                return now.shutBlock(first);
            case OPEN:
                return now.openBlock(first);
            case THROW:
                return now.movePoint(first);
            case WAIT:
                return now.letPass(1);
            default:
                return now.letPass(first);
        }
    }

    private static boolean contains(int set, int member) {
        return member >= 0 && (set & 1 << member) != 0;
    }

    /** The blocks with their exits, and the routes over them. */
    private static final class Line {
        /** Above the number of blocks of any path, so that lengths decide first and numbers of blocks second. */
        private static final int LENGTH_WEIGHT = 16;
        private static final int UNREACHED = 1000000;

        private int blocks = 0;
        private int points = 0;
        private int links = 0;
        private int shut = 0;
        private int stemsToRight = 0;
        private final int[] length = new int[MOST_BLOCKS];
        /** A point has two different exits, a link is kept as the same exit twice. */
        private final int[] left = new int[MOST_BLOCKS];
        private final int[] right = new int[MOST_BLOCKS];
        private final int[] stem = new int[MOST_POINTS];
        /** For each last block and each block the next block of the route from the one to the other. */
        private final int[][] next = new int[MOST_BLOCKS][MOST_BLOCKS];
        /** Likewise the set of all blocks of that route except its first one. */
        private final int[][] routes = new int[MOST_BLOCKS][MOST_BLOCKS];
        private final int[] cost = new int[MOST_BLOCKS];

        void copyFrom(Line other) {
            blocks = other.blocks;
            points = other.points;
            links = other.links;
            shut = other.shut;
            stemsToRight = other.stemsToRight;
            System.arraycopy(other.length, 0, length, 0, MOST_BLOCKS);
            System.arraycopy(other.left, 0, left, 0, MOST_BLOCKS);
            System.arraycopy(other.right, 0, right, 0, MOST_BLOCKS);
            System.arraycopy(other.stem, 0, stem, 0, MOST_POINTS);
            for (int to = 0; to < MOST_BLOCKS; to++) {
                System.arraycopy(other.next[to], 0, next[to], 0, MOST_BLOCKS);
                System.arraycopy(other.routes[to], 0, routes[to], 0, MOST_BLOCKS);
            }
        }

        boolean has(int block) {
            return block >= 0 && block < blocks;
        }

        boolean hasPoint(int point) {
            return point >= 0 && point < points;
        }

        boolean hasExit(int block) {
            return has(block) && left[block] != NONE;
        }

        boolean isStem(int block) {
            return has(block) && left[block] != right[block];
        }

        boolean leadsTo(int from, int to) {
            return has(from) && (left[from] == to || right[from] == to);
        }

        int lengthOf(int block) {
            return has(block) ? length[block] : 0;
        }

        int stemOf(int point) {
            return hasPoint(point) ? stem[point] : NONE;
        }

        boolean pointsLeft(int point) {
            return !contains(stemsToRight, stemOf(point));
        }

        /** The block that a train enters from a block as the points lie now. */
        int exitOf(int block) {
            if (!has(block)) {
                return NONE;
            }
            return contains(stemsToRight, block) ? right[block] : left[block];
        }

        int makeBlock(int blockLength) {
            if (blockLength < 1 || blockLength > LONGEST_BLOCK) {
                return BAD_ARGUMENT;
            }
            if (blocks >= MOST_BLOCKS) {
                return BAD_STATE;
            }
            length[blocks] = blockLength;
            left[blocks] = NONE;
            right[blocks] = NONE;
            blocks++;
            learnRoutes();
            return blocks - 1;
        }

        int makePoint(int from, int toLeft, int toRight) {
            if (!has(from) || !has(toLeft) || !has(toRight)) {
                return NO_SUCH_INDEX;
            }
            if (from == toLeft || from == toRight || toLeft == toRight) {
                return BAD_ARGUMENT;
            }
            if (points >= MOST_POINTS || hasExit(from)) {
                return BAD_STATE;
            }
            left[from] = toLeft;
            right[from] = toRight;
            stem[points] = from;
            points++;
            learnRoutes();
            return points - 1;
        }

        int makeLink(int from, int to) {
            if (!has(from) || !has(to)) {
                return NO_SUCH_INDEX;
            }
            if (from == to) {
                return BAD_ARGUMENT;
            }
            if (hasExit(from)) {
                return BAD_STATE;
            }
            left[from] = to;
            right[from] = to;
            links++;
            learnRoutes();
            return links;
        }

        void turn(int point) {
            if (hasPoint(point)) {
                stemsToRight ^= 1 << stemOf(point);
            }
        }

        /** Moves the points between two blocks to the sides of the route. */
        void turnForRoute(int from, int to) {
            int block = from;
            for (int i = 0; i < MOST_BLOCKS && has(block) && has(to) && block != to; i++) {
                int follower = next[to][block];
                if (left[block] == follower) {
                    stemsToRight &= ~(1 << block);
                } else if (right[block] == follower) {
                    stemsToRight |= 1 << block;
                }
                block = follower;
            }
        }

        /** Routes depend on blocks and exits alone, so they are found anew only when these change. */
        private void learnRoutes() {
            for (int to = 0; to < blocks; to++) {
                learnRoutesTo(to);
            }
        }

        /** Dijkstra's algorithm backwards from the last block. */
        private void learnRoutesTo(int to) {
            int[] follower = next[to];
            int[] route = routes[to];
            Arrays.fill(follower, NONE);
            Arrays.fill(route, 0);
            Arrays.fill(cost, UNREACHED);
            cost[to] = 0;
            int settled = 0;
            for (int i = 0; i < blocks; i++) {
                int nearest = nearestBlock(settled);
                if (nearest == NONE) {
                    return;
                }
                settled |= 1 << nearest;
                int second = follower[nearest];
                if (second != NONE) {
                    route[nearest] = route[second] | 1 << second;
                }
                int through = cost[nearest] + length[nearest] * LENGTH_WEIGHT + 1;
                for (int from = 0; from < blocks; from++) {
                    boolean isBetter = through < cost[from]
                            || through == cost[from] && nearest < follower[from];
                    if (isBetter && leadsTo(from, nearest)) {
                        cost[from] = through;
                        follower[from] = nearest;
                    }
                }
            }
        }

        private int nearestBlock(int settled) {
            int nearest = NONE;
            int least = UNREACHED;
            for (int block = 0; block < blocks; block++) {
                if (!contains(settled, block) && cost[block] < least) {
                    nearest = block;
                    least = cost[block];
                }
            }
            return nearest;
        }

        int nextOnRoute(int from, int to) {
            return has(from) && has(to) ? next[to][from] : NONE;
        }

        /** The set of the blocks of a route except the first one, empty if there is no route. */
        int routeBlocks(int from, int to) {
            return has(from) && has(to) ? routes[to][from] : 0;
        }

        int blockOnRoute(int from, int to, int position) {
            if (position < 0 || position >= MOST_BLOCKS) {
                return NONE;
            }
            int block = from;
            for (int i = 0; i < position; i++) {
                block = nextOnRoute(block, to);
            }
            return block;
        }

        int totalLength(int set) {
            int sum = 0;
            for (int block = 0; block < blocks; block++) {
                if (contains(set, block)) {
                    sum += length[block];
                }
            }
            return sum;
        }

        int numberOfPaths(int from, int to) {
            return countPaths(this, from, to, 0, 0);
        }

        int shortestPath(int from, int to) {
            int shortest = tryPaths(this, from, to, 0, 0);
            return shortest >= UNREACHED ? NONE : shortest;
        }

        private static int countPaths(Line line, int block, int to, int before, int depth) {
            if (block == to) {
                return 1;
            }
            if (depth >= MOST_BLOCKS || !line.hasExit(block) || contains(before, block)) {
                return 0;
            }
            int passed = before | 1 << block;
            int found = countPaths(line, line.left[block], to, passed, depth + 1);
            if (line.isStem(block)) {
                found += countPaths(line, line.right[block], to, passed, depth + 1);
            }
            return found;
        }

        private static int tryPaths(Line line, int block, int to, int before, int depth) {
            if (block == to) {
                return 0;
            }
            if (depth >= MOST_BLOCKS || !line.hasExit(block) || contains(before, block)) {
                return UNREACHED;
            }
            int passed = before | 1 << block;
            int toLeft = line.left[block];
            int toRight = line.right[block];
            int byLeft = tryPaths(line, toLeft, to, passed, depth + 1) + line.lengthOf(toLeft);
            if (toLeft == toRight) {
                return byLeft;
            }
            int byRight = tryPaths(line, toRight, to, passed, depth + 1) + line.lengthOf(toRight);
            return Math.min(byLeft, byRight);
        }
    }

    /**
     * A train. Its set route is not listed here: its points are locked, so that
     * it is where the exits lead from the train's block to its destination.
     */
    private static final class Train {
        private int number = 0;
        private int block = 0;
        private int destination = 0;
        private int reserved = 0;
        private int nextMinute = 0;
        private int delay = 0;

        void copyFrom(Train other) {
            number = other.number;
            block = other.block;
            destination = other.destination;
            reserved = other.reserved;
            nextMinute = other.nextMinute;
            delay = other.delay;
        }

        void begin(int itsNumber, int itsBlock, int itsDestination) {
            number = itsNumber;
            block = itsBlock;
            destination = itsDestination;
            reserved = 0;
            nextMinute = 0;
            delay = 0;
        }

        /** The destination stays reserved as long as a route is set. */
        boolean isRouted() {
            return reserved != 0;
        }

        int held() {
            return reserved | 1 << block;
        }

        boolean locks(int stem) {
            return isRouted() && stem != destination && contains(held(), stem);
        }
    }

    /** All that is undone, saved and restored. */
    private static final class State {
        private final Line line = new Line();
        /** Those present stand first, in the order of their numbers; the others are used again. */
        private final Train[] trains = new Train[MOST_TRAINS];
        private final int[] queue = new int[MOST_TRAINS];
        private int present = 0;
        private int waiting = 0;
        private int come = 0;
        private int gone = 0;
        private int time = 0;
        private long allDelays = 0;

        State() {
            for (int i = 0; i < MOST_TRAINS; i++) {
                trains[i] = new Train();
            }
        }

        void copyFrom(State other) {
            line.copyFrom(other.line);
            for (int i = 0; i < MOST_TRAINS; i++) {
                trains[i].copyFrom(other.trains[i]);
            }
            System.arraycopy(other.queue, 0, queue, 0, MOST_TRAINS);
            present = other.present;
            waiting = other.waiting;
            come = other.come;
            gone = other.gone;
            time = other.time;
            allDelays = other.allDelays;
        }

        Train find(int number) {
            for (int i = 0; i < present; i++) {
                if (trains[i].number == number) {
                    return trains[i];
                }
            }
            return null;
        }

        /** The set of the blocks that are occupied or reserved. */
        int held() {
            int set = 0;
            for (int i = 0; i < present; i++) {
                set |= trains[i].held();
            }
            return set;
        }

        int holderOf(int block) {
            for (int i = 0; i < present; i++) {
                if (contains(trains[i].held(), block)) {
                    return trains[i].number;
                }
            }
            return NONE;
        }

        int lockerOf(int point) {
            int stem = line.stemOf(point);
            for (int i = 0; i < present; i++) {
                if (trains[i].locks(stem)) {
                    return trains[i].number;
                }
            }
            return NONE;
        }

        boolean isReserved(int block) {
            for (int i = 0; i < present; i++) {
                if (contains(trains[i].reserved, block)) {
                    return true;
                }
            }
            return false;
        }

        char stateOf(int block) {
            if (contains(line.shut, block)) {
                return 's';
            }
            if (isReserved(block)) {
                return 'r';
            }
            return contains(held(), block) ? 'o' : 'f';
        }

        int shutBlock(int block) {
            if (!line.has(block)) {
                return NO_SUCH_INDEX;
            }
            if (contains(line.shut, block) || isReserved(block)) {
                return BAD_STATE;
            }
            line.shut |= 1 << block;
            return Integer.bitCount(line.shut);
        }

        int openBlock(int block) {
            if (!line.has(block)) {
                return NO_SUCH_INDEX;
            }
            if (!contains(line.shut, block)) {
                return BAD_STATE;
            }
            line.shut &= ~(1 << block);
            return Integer.bitCount(line.shut);
        }

        /** Answers 1 if the point lies to the left afterwards, otherwise 0. */
        int movePoint(int point) {
            if (!line.hasPoint(point)) {
                return NO_SUCH_INDEX;
            }
            if (lockerOf(point) != NONE) {
                return BAD_STATE;
            }
            line.turn(point);
            return line.pointsLeft(point) ? 1 : 0;
        }

        int bringTrain(int block, int destination) {
            if (!line.has(block) || !line.has(destination)) {
                return NO_SUCH_INDEX;
            }
            if (block == destination) {
                return BAD_ARGUMENT;
            }
            if (present >= MOST_TRAINS || contains(line.shut | held(), block)) {
                return BAD_STATE;
            }
            int number = come;
            trains[present].begin(number, block, destination);
            present++;
            come++;
            joinQueue(number);
            return number;
        }

        int inQueue(int position) {
            return position >= 0 && position < waiting ? queue[position] : NONE;
        }

        private void joinQueue(int number) {
            if (waiting < MOST_TRAINS) {
                queue[waiting] = number;
                waiting++;
            }
        }

        private void leaveQueue(int number) {
            int kept = 0;
            for (int i = 0; i < waiting; i++) {
                if (queue[i] != number) {
                    queue[kept] = queue[i];
                    kept++;
                }
            }
            waiting = kept;
        }

        int routeOf(Train train) {
            return line.routeBlocks(train.block, train.destination);
        }

        boolean canSet(Train train) {
            int route = line.routeBlocks(train.block, train.destination);
            return !train.isRouted() && route != 0 && (route & (line.shut | held())) == 0;
        }

        /** The first block of a train's route that is not free, NONE if all are free or there is no route. */
        int firstNotFree(Train train) {
            int taken = line.shut | held();
            int block = line.nextOnRoute(train.block, train.destination);
            for (int i = 0; i < MOST_BLOCKS && block != NONE; i++) {
                if (contains(taken, block)) {
                    return block;
                }
                block = line.nextOnRoute(block, train.destination);
            }
            return NONE;
        }

        int grantRoute(int number) {
            Train train = find(number);
            if (train == null) {
                return NO_SUCH_TRAIN;
            }
            if (train.isRouted()) {
                return BAD_STATE;
            }
            if (!canSet(train)) {
                return ROUTE_REFUSED;
            }
            leaveQueue(number);
            reserveRoute(train);
            return line.totalLength(train.reserved);
        }

        private void reserveRoute(Train train) {
            line.turnForRoute(train.block, train.destination);
            train.reserved = line.routeBlocks(train.block, train.destination);
            train.nextMinute = time + line.lengthOf(line.exitOf(train.block));
        }

        int withdrawRoute(int number) {
            Train train = find(number);
            if (train == null) {
                return NO_SUCH_TRAIN;
            }
            if (!train.isRouted()) {
                return BAD_STATE;
            }
            train.reserved = 0;
            joinQueue(number);
            return waiting;
        }

        int letPass(int minutes) {
            if (minutes < 1 || minutes > LONGEST_PASS) {
                return BAD_ARGUMENT;
            }
            int goneBefore = gone;
            for (int i = 0; i < minutes; i++) {
                passMinute();
            }
            return gone - goneBefore;
        }

        void passMinute() {
            time++;
            for (int i = 0; i < present; i++) {
                if (trains[i].isRouted() && trains[i].nextMinute == time) {
                    enterNext(trains[i]);
                }
            }
            removeArrived();
            considerQueue();
        }

        private void enterNext(Train train) {
            int block = line.exitOf(train.block);
            train.block = block;
            train.reserved &= ~(1 << block);
            train.nextMinute = time + line.lengthOf(line.exitOf(block));
        }

        private void removeArrived() {
            int kept = 0;
            for (int i = 0; i < present; i++) {
                Train train = trains[i];
                if (train.block == train.destination) {
                    gone++;
                } else {
                    trains[i] = trains[kept];
                    trains[kept] = train;
                    kept++;
                }
            }
            present = kept;
        }

        private void considerQueue() {
            int kept = 0;
            for (int i = 0; i < waiting; i++) {
                Train train = find(queue[i]);
                if (train != null && canSet(train)) {
                    reserveRoute(train);
                } else if (train != null) {
                    train.delay++;
                    allDelays++;
                    queue[kept] = train.number;
                    kept++;
                }
            }
            waiting = kept;
        }

        int minutesToGo(Train train) {
            int untilNext = train.nextMinute - time;
            int nextLength = line.lengthOf(line.exitOf(train.block));
            return untilNext + line.totalLength(train.reserved) - nextLength;
        }

        boolean waits(Train train, Train other) {
            return !train.isRouted() && (routeOf(train) & other.held()) != 0;
        }

        boolean routesMeet(Train one, Train two) {
            return (routeOf(one) & routeOf(two)) != 0;
        }

        void relateWaiting(Relation relation) {
            relation.begin(present);
            for (int i = 0; i < present; i++) {
                for (int j = 0; j < present; j++) {
                    if (i != j && waits(trains[i], trains[j])) {
                        relation.relate(i, j);
                    }
                }
            }
        }

        void relateConflicts(Relation relation) {
            relation.begin(present);
            for (int i = 0; i < present; i++) {
                for (int j = 0; j < present; j++) {
                    if (i != j && routesMeet(trains[i], trains[j])) {
                        relation.relate(i, j);
                    }
                }
            }
        }
    }

    /** The eight latest states before a change, and a ninth place for the state before the change under way. */
    private static final class History {
        private static final int PLACES = MOST_UNDOS + 1;

        private final State[] states = new State[PLACES];
        private int place = 0;
        private int count = 0;

        History() {
            for (int i = 0; i < PLACES; i++) {
                states[i] = new State();
            }
        }

        void keep(State state) {
            states[place].copyFrom(state);
        }

        void putBack(State state) {
            state.copyFrom(states[place]);
        }

        void commit() {
            place = (place + 1) % PLACES;
            count = Math.min(count + 1, MOST_UNDOS);
        }

        boolean takeBack(State state) {
            if (count == 0) {
                return false;
            }
            count--;
            place = (place + PLACES - 1) % PLACES;
            putBack(state);
            return true;
        }

        void forget() {
            count = 0;
        }
    }

    /** Which of the trains, counted in the order of their numbers, is related to which: by waiting or by conflict. */
    private static final class Relation {
        private int size = 0;
        private final int[] related = new int[MOST_TRAINS];
        /** For the search: when each train was found, 0 if it was not, and the earliest one that it leads back to. */
        private final int[] found = new int[MOST_TRAINS];
        private final int[] earliest = new int[MOST_TRAINS];
        private int visits = 0;
        private int pending = 0;
        private int circling = 0;

        void begin(int trains) {
            size = Math.max(0, Math.min(trains, MOST_TRAINS));
            Arrays.fill(related, 0);
        }

        void relate(int one, int other) {
            if (one >= 0 && one < size) {
                related[one] |= 1 << other;
            }
        }

        int inCircles() {
            Arrays.fill(found, 0);
            visits = 0;
            pending = 0;
            circling = 0;
            for (int i = 0; i < size; i++) {
                if (found[i] == 0) {
                    search(this, i, 0);
                }
            }
            return circling;
        }

        /** Tarjan's search for the strongly connected sets. */
        private static void search(Relation relation, int one, int depth) {
            if (depth >= MOST_TRAINS || one >= relation.size) {
                return;
            }
            relation.enter(one);
            int earliest = relation.found[one];
            for (int other = 0; other < relation.size; other++) {
                if (contains(relation.related[one], other)) {
                    if (relation.found[other] == 0) {
                        search(relation, other, depth + 1);
                        earliest = Math.min(earliest, relation.earliest[other]);
                    } else if (contains(relation.pending, other)) {
                        earliest = Math.min(earliest, relation.found[other]);
                    }
                }
            }
            relation.earliest[one] = earliest;
            if (earliest == relation.found[one]) {
                relation.closeSet(earliest);
            }
        }

        private void enter(int one) {
            visits++;
            found[one] = visits;
            earliest[one] = visits;
            pending |= 1 << one;
        }

        /** All pending trains that were found since its first one are a strongly connected set. */
        private void closeSet(int first) {
            int members = 0;
            for (int i = 0; i < size; i++) {
                if (contains(pending, i) && found[i] >= first) {
                    members++;
                    pending &= ~(1 << i);
                }
            }
            if (members > 1) {
                circling += members;
            }
        }

        int inCirclesByPairs() {
            for (int middle = 0; middle < size; middle++) {
                for (int one = 0; one < size; one++) {
                    if (contains(related[one], middle)) {
                        related[one] |= related[middle];
                    }
                }
            }
            int count = 0;
            for (int i = 0; i < size; i++) {
                if (contains(related[i], i)) {
                    count++;
                }
            }
            return count;
        }

        int mostUnrelated() {
            return takeOrLeave(this, 0, 0);
        }

        private static int takeOrLeave(Relation relation, int train, int taken) {
            if (train >= relation.size) {
                return 0;
            }
            int most = takeOrLeave(relation, train + 1, taken);
            if ((relation.related[train] & taken) == 0) {
                most = Math.max(most, 1 + takeOrLeave(relation, train + 1, taken | 1 << train));
            }
            return most;
        }

        int mostUnrelatedBySets() {
            int most = 0;
            for (int set = 0; set < 1 << size; set++) {
                if (isUnrelated(set)) {
                    most = Math.max(most, Integer.bitCount(set));
                }
            }
            return most;
        }

        private boolean isUnrelated(int set) {
            for (int i = 0; i < size; i++) {
                if (contains(set, i) && (related[i] & set) != 0) {
                    return false;
                }
            }
            return true;
        }
    }

    /** The commands in their forms: # stands for a digit, * for a number, any other sign for itself. */
    private enum Command {
        BLOCK("block #"),
        POINT("point *>*,*"),
        LINK("link *>*"),
        TRAIN("train *>*"),
        SET("set *"),
        FREE("free *"),
        SHUT("shut *"),
        OPEN("open *"),
        THROW("throw #"),
        WAIT("wait"),
        WAIT_MINUTES("wait *");

        private final String form;

        Command(String form) {
            this.form = form;
        }
    }

    /** The program buffer, and the commands of the text that was parsed last. */
    private static final class Program {
        private final char[] text = new char[BUFFER_SIZE];
        private int length = 0;
        private final Command[] commands = new Command[MOST_COMMANDS];
        private final int[][] numbers = new int[MOST_COMMANDS][MOST_NUMBERS];
        private int count = 0;
        /** The farthest index at which a program could still go on. */
        private int stop = 0;

        Program() {
            for (int i = 0; i < MOST_COMMANDS; i++) {
                commands[i] = Command.WAIT;
            }
        }

        boolean append(char character) {
            if (length >= BUFFER_SIZE) {
                return false;
            }
            text[length] = character;
            length++;
            return true;
        }

        void clear() {
            length = 0;
        }

        Command command(int index) {
            return index >= 0 && index < count ? commands[index] : Command.WAIT;
        }

        int number(int index, int position) {
            boolean exists = index >= 0 && index < count && position >= 0 && position < MOST_NUMBERS;
            return exists ? numbers[index][position] : NONE;
        }

        /** Answers whether the text is a program; if it is not, stop is its error position. */
        boolean parse() {
            int start = 0;
            count = 0;
            for (int i = 0; i < MOST_COMMANDS; i++) {
                int end = parseCommand(start);
                if (end == NONE) {
                    return false;
                }
                count++;
                if (end == length) {
                    return true;
                }
                start = end + 1;
            }
            return false;
        }

        /** Answers the index behind the command, where the text ends or a semicolon stands, or NONE. */
        private int parseCommand(int start) {
            int end = NONE;
            stop = start;
            for (int i = 0; i < COMMANDS.length; i++) {
                int endOfForm = match(COMMANDS[i].form, start);
                if (endOfForm > end && count < MOST_COMMANDS) {
                    end = endOfForm;
                    commands[count] = COMMANDS[i];
                }
            }
            return end == length || isAt(end, ';') ? end : NONE;
        }

        /** Answers the index behind a form that stands at an index, or NONE. */
        private int match(String form, int start) {
            int index = start;
            int found = 0;
            for (int i = 0; i < form.length(); i++) {
                char sign = form.charAt(i);
                int taken = sign == '#' ? digitsAt(index, 1)
                        : sign == '*' ? digitsAt(index, MOST_DIGITS)
                        : isAt(index, sign) ? 1 : 0;
                if (sign == '#' || sign == '*') {
                    noteNumber(found, index, taken);
                    found++;
                }
                index += taken;
                stop = Math.max(stop, index);
                if (taken == 0) {
                    return NONE;
                }
            }
            return index;
        }

        private boolean isAt(int index, char sign) {
            return index >= 0 && index < length && text[index] == sign;
        }

        private int digitsAt(int index, int most) {
            int digits = 0;
            for (int i = 0; i < most && isDigit(index + i); i++) {
                digits++;
            }
            return digits;
        }

        private boolean isDigit(int index) {
            return index >= 0 && index < length && text[index] >= '0' && text[index] <= '9';
        }

        private void noteNumber(int position, int index, int digits) {
            int value = 0;
            for (int i = 0; i < digits && isDigit(index + i); i++) {
                value = value * 10 + (text[index + i] - '0');
            }
            if (position < MOST_NUMBERS && count < MOST_COMMANDS) {
                numbers[count][position] = value;
            }
        }
    }

    /** What holds in every state that calls can lead to. */
    private static final class Invariants {
        static boolean hold(State state) {
            return lineIsSound(state.line) && trainsAreSound(state) && blocksAreHeldOnce(state)
                    && routesAreSound(state) && queueIsSound(state);
        }

        private static boolean lineIsSound(Line line) {
            int exits = 0;
            for (int block = 0; block < line.blocks; block++) {
                boolean leadsBack = line.leadsTo(block, block);
                if (line.lengthOf(block) < 1 || line.lengthOf(block) > LONGEST_BLOCK || leadsBack) {
                    return false;
                }
                exits += line.hasExit(block) ? 1 : 0;
            }
            int stems = 0;
            for (int point = 0; point < line.points; point++) {
                int stem = line.stemOf(point);
                if (!line.isStem(stem) || contains(stems, stem)) {
                    return false;
                }
                stems |= 1 << stem;
            }
            int all = (1 << line.blocks) - 1;
            return exits == line.points + line.links && (line.stemsToRight & ~stems) == 0
                    && (line.shut & ~all) == 0;
        }

        private static boolean trainsAreSound(State state) {
            long delays = 0;
            int before = NONE;
            for (int i = 0; i < state.present; i++) {
                Train train = state.trains[i];
                boolean isPlaced = state.line.has(train.block) && state.line.has(train.destination)
                        && train.block != train.destination;
                if (!isPlaced || train.number <= before || train.delay < 0) {
                    return false;
                }
                before = train.number;
                delays += train.delay;
            }
            return before < state.come && state.present + state.gone == state.come
                    && delays <= state.allDelays;
        }

        private static boolean blocksAreHeldOnce(State state) {
            int held = 0;
            for (int i = 0; i < state.present; i++) {
                Train train = state.trains[i];
                boolean isReservedToo = contains(train.reserved, train.block);
                if ((held & train.held()) != 0 || (state.line.shut & train.reserved) != 0 || isReservedToo) {
                    return false;
                }
                held |= train.held();
            }
            return true;
        }

        /** A train with a set route must be led over exactly its reserved blocks, and go on in time. */
        private static boolean routesAreSound(State state) {
            for (int i = 0; i < state.present; i++) {
                Train train = state.trains[i];
                int untilNext = train.nextMinute - state.time;
                int nextLength = state.line.lengthOf(state.line.exitOf(train.block));
                boolean isLed = blocksAhead(state.line, train) == train.reserved;
                if (train.isRouted() && (!isLed || untilNext < 1 || untilNext > nextLength)) {
                    return false;
                }
            }
            return true;
        }

        private static int blocksAhead(Line line, Train train) {
            int ahead = 0;
            int block = train.block;
            for (int i = 0; i < MOST_BLOCKS && line.has(block) && block != train.destination; i++) {
                block = line.exitOf(block);
                ahead |= 1 << block;
            }
            return ahead;
        }

        /** Exactly the trains without set routes stand in the queue, each one once. */
        private static boolean queueIsSound(State state) {
            int routed = 0;
            for (int i = 0; i < state.present; i++) {
                routed += state.trains[i].isRouted() ? 1 : 0;
            }
            for (int i = 0; i < state.waiting; i++) {
                Train train = state.find(state.inQueue(i));
                if (train == null || train.isRouted()) {
                    return false;
                }
                for (int j = 0; j < i; j++) {
                    if (state.inQueue(j) == state.inQueue(i)) {
                        return false;
                    }
                }
            }
            return routed + state.waiting == state.present;
        }
    }
}
