import java.util.ArrayDeque;
import java.util.ArrayList;
import java.util.Comparator;
import java.util.Deque;
import java.util.HashMap;
import java.util.HashSet;
import java.util.List;
import java.util.Map;
import java.util.NoSuchElementException;
import java.util.Set;
import java.util.TreeMap;
import java.util.regex.Matcher;
import java.util.regex.Pattern;

/**
 * The same signal box written once more, as plainly as the document reads and without a thought of cost:
 * routes are the least of all paths, set routes are lists, blocks know for whom they are reserved.
 */
public final class PlainBox {
    private static final class Train {
        int number;
        int block;
        int destination;
        int delay;
        int elapsed;
        List<Integer> route;

        Train copy() {
            Train copy = new Train();
            copy.number = number;
            copy.block = block;
            copy.destination = destination;
            copy.delay = delay;
            copy.elapsed = elapsed;
            copy.route = route == null ? null : new ArrayList<>(route);
            return copy;
        }
    }

    private static final class Point {
        int stem;
        int left;
        int right;
        boolean liesLeft = true;
        Integer locker;

        Point copy() {
            Point copy = new Point();
            copy.stem = stem;
            copy.left = left;
            copy.right = right;
            copy.liesLeft = liesLeft;
            copy.locker = locker;
            return copy;
        }
    }

    private static final class State {
        List<Integer> lengths = new ArrayList<>();
        List<Point> points = new ArrayList<>();
        Map<Integer, Integer> links = new HashMap<>();
        Set<Integer> shut = new HashSet<>();
        Map<Integer, Integer> occupied = new HashMap<>();
        Map<Integer, Integer> reserved = new HashMap<>();
        TreeMap<Integer, Train> trains = new TreeMap<>();
        List<Integer> queue = new ArrayList<>();
        int come;
        int arrived;
        int time;
        long delays;

        State copy() {
            State copy = new State();
            copy.lengths.addAll(lengths);
            points.forEach(point -> copy.points.add(point.copy()));
            copy.links.putAll(links);
            copy.shut.addAll(shut);
            copy.occupied.putAll(occupied);
            copy.reserved.putAll(reserved);
            trains.forEach((number, train) -> copy.trains.put(number, train.copy()));
            copy.queue.addAll(queue);
            copy.come = come;
            copy.arrived = arrived;
            copy.time = time;
            copy.delays = delays;
            return copy;
        }

        Point pointAt(int block) {
            for (Point point : points) {
                if (point.stem == block) {
                    return point;
                }
            }
            return null;
        }

        List<Integer> exits(int block) {
            Point point = pointAt(block);
            if (point != null) {
                return List.of(point.left, point.right);
            }
            return links.containsKey(block) ? List.of(links.get(block)) : List.of();
        }

        List<List<Integer>> paths(int from, int to) {
            List<List<Integer>> found = new ArrayList<>();
            extend(new ArrayList<>(List.of(from)), to, found);
            return found;
        }

        void extend(List<Integer> path, int to, List<List<Integer>> found) {
            int last = path.get(path.size() - 1);
            if (last == to) {
                found.add(new ArrayList<>(path));
                return;
            }
            for (int exit : exits(last)) {
                if (!path.contains(exit)) {
                    path.add(exit);
                    extend(path, to, found);
                    path.remove(path.size() - 1);
                }
            }
        }

        int length(List<Integer> path) {
            int sum = 0;
            for (int block : path.subList(1, path.size())) {
                sum += lengths.get(block);
            }
            return sum;
        }

        List<Integer> route(int from, int to) {
            Comparator<List<Integer>> order = Comparator.comparingInt(this::length);
            order = order.thenComparingInt(List::size).thenComparing((a, b) -> {
                for (int i = 0; i < a.size(); i++) {
                    if (!a.get(i).equals(b.get(i))) {
                        return a.get(i) - b.get(i);
                    }
                }
                return 0;
            });
            return paths(from, to).stream().min(order).orElse(null);
        }

        List<Integer> ahead(Train train) {
            List<Integer> route = route(train.block, train.destination);
            return route == null ? List.of() : route.subList(1, route.size());
        }

        char look(int block) {
            return shut.contains(block) ? 's' : occupied.containsKey(block) ? 'o'
                    : reserved.containsKey(block) ? 'r' : 'f';
        }

        boolean clear(Train train) {
            return train.route == null && !ahead(train).isEmpty()
                    && ahead(train).stream().allMatch(block -> look(block) == 'f');
        }

        void set(Train train) {
            train.route = new ArrayList<>(ahead(train));
            train.elapsed = 0;
            int before = train.block;
            for (int block : train.route) {
                reserved.put(block, train.number);
                Point point = pointAt(before);
                if (point != null) {
                    point.liesLeft = point.left == block;
                    point.locker = train.number;
                }
                before = block;
            }
            queue.remove((Integer) train.number);
        }

        int minute() {
            time++;
            int arrivals = 0;
            for (Train train : new ArrayList<>(trains.values())) {
                if (train.route != null && ++train.elapsed == lengths.get(train.route.get(0))) {
                    arrivals += enter(train);
                }
            }
            for (int number : new ArrayList<>(queue)) {
                Train train = trains.get(number);
                if (clear(train)) {
                    set(train);
                } else {
                    train.delay++;
                    delays++;
                }
            }
            return arrivals;
        }

        int enter(Train train) {
            Point behind = pointAt(train.block);
            if (behind != null) {
                behind.locker = null;
            }
            occupied.remove(train.block);
            train.block = train.route.remove(0);
            train.elapsed = 0;
            reserved.remove(train.block);
            if (train.block == train.destination) {
                trains.remove(train.number);
                arrived++;
                return 1;
            }
            occupied.put(train.block, train.number);
            return 0;
        }

        boolean waits(Train train, Train other) {
            return train.route == null && train != other && ahead(train).stream().anyMatch(block ->
                    Integer.valueOf(other.number).equals(occupied.get(block))
                            || Integer.valueOf(other.number).equals(reserved.get(block)));
        }

        boolean conflict(Train one, Train two) {
            return ahead(one).stream().anyMatch(ahead(two)::contains);
        }
    }

    private static final Pattern PROGRAM;

    static {
        String number = "\\d\\d?\\d?";
        String command = "(?:block \\d|point N>N,N|link N>N|train N>N|set N|free N|shut N|open N|throw \\d|wait(?: N)?)"
                .replace("N", number).replace("\\d", "[0-9]");
        PROGRAM = Pattern.compile(command + "(?:;" + command + ")*+");
    }

    private State now = new State();
    private State saved;
    private final Deque<State> past = new ArrayDeque<>();
    private final StringBuilder buffer = new StringBuilder();
    private String line = "";
    private Character reason;
    private Integer reasonBlock;
    private Integer error;
    private Integer failed;

    private void change(State before) {
        past.addLast(before);
        if (past.size() > 8) {
            past.removeFirst();
        }
    }

    private void needBlocks(int... blocks) {
        for (int block : blocks) {
            if (block < 0 || block >= now.lengths.size()) {
                throw new IndexOutOfBoundsException();
            }
        }
    }

    private void needPoint(int point) {
        if (point < 0 || point >= now.points.size()) {
            throw new IndexOutOfBoundsException();
        }
    }

    private Train train(int number) {
        if (!now.trains.containsKey(number)) {
            throw new NoSuchElementException();
        }
        return now.trains.get(number);
    }

    private static void argument(boolean isGood) {
        if (!isGood) {
            throw new IllegalArgumentException();
        }
    }

    private static void state(boolean isGood) {
        if (!isGood) {
            throw new IllegalStateException();
        }
    }

    private static void element(boolean isThere) {
        if (!isThere) {
            throw new NoSuchElementException();
        }
    }

    public int addBlock(int length) {
        argument(length >= 1 && length <= 9);
        state(now.lengths.size() < 12);
        change(now.copy());
        now.lengths.add(length);
        return now.lengths.size() - 1;
    }

    public int addPoint(int stem, int left, int right) {
        needBlocks(stem, left, right);
        argument(stem != left && stem != right && left != right);
        state(now.points.size() < 8 && now.exits(stem).isEmpty());
        change(now.copy());
        Point point = new Point();
        point.stem = stem;
        point.left = left;
        point.right = right;
        now.points.add(point);
        return now.points.size() - 1;
    }

    public int addLink(int from, int to) {
        needBlocks(from, to);
        argument(from != to);
        state(now.exits(from).isEmpty());
        change(now.copy());
        now.links.put(from, to);
        return now.links.size();
    }

    public int shut(int block) {
        needBlocks(block);
        state(!now.shut.contains(block) && !now.reserved.containsKey(block));
        change(now.copy());
        now.shut.add(block);
        return now.shut.size();
    }

    public int open(int block) {
        needBlocks(block);
        state(now.shut.contains(block));
        change(now.copy());
        now.shut.remove(block);
        return now.shut.size();
    }

    public boolean throwPoint(int point) {
        needPoint(point);
        state(now.points.get(point).locker == null);
        change(now.copy());
        now.points.get(point).liesLeft ^= true;
        return now.points.get(point).liesLeft;
    }

    public int addTrain(int block, int destination) {
        needBlocks(block, destination);
        argument(block != destination);
        state(now.trains.size() < 8 && now.look(block) == 'f');
        change(now.copy());
        Train train = new Train();
        train.number = now.come++;
        train.block = block;
        train.destination = destination;
        now.trains.put(train.number, train);
        now.occupied.put(block, train.number);
        now.queue.add(train.number);
        return train.number;
    }

    public int setRoute(int number) {
        Train train = train(number);
        state(train.route == null);
        if (!now.clear(train)) {
            reason = 'n';
            reasonBlock = null;
            for (int block : now.ahead(train)) {
                if (reasonBlock == null && now.look(block) != 'f') {
                    reason = now.look(block);
                    reasonBlock = block;
                }
            }
            throw new UnsupportedOperationException();
        }
        change(now.copy());
        now.set(train);
        return now.length(now.route(train.block, train.destination));
    }

    public int releaseRoute(int number) {
        Train train = train(number);
        state(train.route != null);
        change(now.copy());
        train.route = null;
        now.reserved.values().removeIf(holder -> holder == number);
        for (Point point : now.points) {
            if (point.locker != null && point.locker == number) {
                point.locker = null;
            }
        }
        now.queue.add(number);
        return now.queue.size();
    }

    public int pass(int minutes) {
        argument(minutes >= 1 && minutes <= 240);
        change(now.copy());
        int arrivals = 0;
        for (int i = 0; i < minutes; i++) {
            arrivals += now.minute();
        }
        return arrivals;
    }

    public int blocks() {
        return now.lengths.size();
    }

    public int blockLength(int block) {
        needBlocks(block);
        return now.lengths.get(block);
    }

    public char blockState(int block) {
        needBlocks(block);
        return now.look(block);
    }

    public int trainAt(int block) {
        needBlocks(block);
        element(now.occupied.containsKey(block) || now.reserved.containsKey(block));
        return now.occupied.containsKey(block) ? now.occupied.get(block) : now.reserved.get(block);
    }

    public boolean liesLeft(int point) {
        needPoint(point);
        return now.points.get(point).liesLeft;
    }

    public int lockedBy(int point) {
        needPoint(point);
        element(now.points.get(point).locker != null);
        return now.points.get(point).locker;
    }

    public int routeLength(int from, int to) {
        needBlocks(from, to);
        element(!now.paths(from, to).isEmpty());
        return now.length(now.route(from, to));
    }

    public int routeLengthByPaths(int from, int to) {
        return routeLength(from, to);
    }

    public int routeBlock(int from, int to, int position) {
        needBlocks(from, to);
        List<Integer> route = now.route(from, to);
        element(route != null && position >= 0 && position < route.size());
        return route.get(position);
    }

    public int paths(int from, int to) {
        needBlocks(from, to);
        return now.paths(from, to).size();
    }

    public int trains() {
        return now.trains.size();
    }

    public boolean isPresent(int number) {
        return now.trains.containsKey(number);
    }

    public int blockOf(int number) {
        return train(number).block;
    }

    public int destination(int number) {
        return train(number).destination;
    }

    public boolean hasRoute(int number) {
        return train(number).route != null;
    }

    public boolean isClear(int number) {
        return now.clear(train(number));
    }

    public int minutesUntilNext(int number) {
        Train train = train(number);
        element(train.route != null);
        return now.lengths.get(train.route.get(0)) - train.elapsed;
    }

    public int minutesUntilArrival(int number) {
        Train train = train(number);
        element(train.route != null);
        return train.route.stream().mapToInt(now.lengths::get).sum() - train.elapsed;
    }

    public int minutesUntilArrivalByPassing(int number) {
        return minutesUntilArrival(number);
    }

    public int delay(int number) {
        return train(number).delay;
    }

    public int queued(int position) {
        element(position >= 0 && position < now.queue.size());
        return now.queue.get(position);
    }

    public boolean waitsFor(int number, int other) {
        return now.waits(train(number), train(other));
    }

    /** A train belongs to a deadlock if a walk along those that are waited for comes back to it. */
    public int deadlocked() {
        int count = 0;
        for (Train train : now.trains.values()) {
            Set<Train> reached = new HashSet<>();
            Deque<Train> open = new ArrayDeque<>(List.of(train));
            while (!open.isEmpty()) {
                Train next = open.removeFirst();
                for (Train other : now.trains.values()) {
                    if (now.waits(next, other) && reached.add(other)) {
                        open.add(other);
                    }
                }
            }
            count += reached.contains(train) ? 1 : 0;
        }
        return count;
    }

    public int deadlockedByPairs() {
        return deadlocked();
    }

    public boolean conflict(int number, int other) {
        Train one = train(number);
        Train two = train(other);
        argument(one != two);
        return now.conflict(one, two);
    }

    public int mostWithoutConflict() {
        return most(new ArrayList<>(now.trains.values()), new ArrayList<>());
    }

    private int most(List<Train> left, List<Train> taken) {
        if (left.isEmpty()) {
            return taken.size();
        }
        Train first = left.get(0);
        List<Train> rest = left.subList(1, left.size());
        int best = most(rest, taken);
        if (taken.stream().noneMatch(train -> now.conflict(train, first))) {
            List<Train> more = new ArrayList<>(taken);
            more.add(first);
            best = Math.max(best, most(rest, more));
        }
        return best;
    }

    public int mostWithoutConflictBySets() {
        return mostWithoutConflict();
    }

    public char refusalReason() {
        element(reason != null);
        return reason;
    }

    public int refusalBlock() {
        element(reasonBlock != null);
        return reasonBlock;
    }

    public int time() {
        return now.time;
    }

    public int arrived() {
        return now.arrived;
    }

    public long totalDelay() {
        return now.delays;
    }

    public double meanDelay() {
        if (now.come == 0) {
            throw new ArithmeticException();
        }
        return (double) now.delays / (double) now.come;
    }

    public float usedShare() {
        if (now.lengths.isEmpty()) {
            throw new ArithmeticException();
        }
        return (float) (now.occupied.size() + now.reserved.size()) / (float) now.lengths.size();
    }

    public boolean isConsistent() {
        return true;
    }

    public int writeBlocks() {
        StringBuilder text = new StringBuilder();
        for (int block = 0; block < blocks(); block++) {
            text.append(now.look(block));
            if (now.look(block) == 'o' || now.look(block) == 'r') {
                text.append(trainAt(block));
            }
        }
        line = text.toString();
        return line.length();
    }

    public int writeTrain(int number) {
        Train train = train(number);
        StringBuilder text = new StringBuilder(number + "@" + train.block);
        if (train.route == null) {
            text.append("?").append(train.destination);
        } else {
            train.route.forEach(block -> text.append(">").append(block));
        }
        line = text.toString();
        return line.length();
    }

    public char charAt(int index) {
        if (index < 0 || index >= line.length()) {
            throw new IndexOutOfBoundsException();
        }
        return line.charAt(index);
    }

    public int type(char character) {
        state(buffer.length() < 60);
        buffer.append(character);
        return buffer.length();
    }

    public int run() {
        String text = buffer.toString();
        buffer.setLength(0);
        if (!PROGRAM.matcher(text).matches()) {
            error = errorIn(text);
            throw new IllegalArgumentException();
        }
        State before = now.copy();
        List<State> pastBefore = new ArrayList<>(past);
        String[] commands = text.split(";");
        for (int i = 0; i < commands.length; i++) {
            try {
                execute(commands[i]);
            } catch (RuntimeException e) {
                now = before;
                past.clear();
                past.addAll(pastBefore);
                failed = i;
                throw new UnsupportedOperationException();
            }
        }
        past.clear();
        past.addAll(pastBefore);
        change(before);
        return commands.length;
    }

    private static int errorIn(String text) {
        int longest = 0;
        for (int end = 0; end <= text.length(); end++) {
            Matcher matcher = PROGRAM.matcher(text.substring(0, end));
            if (matcher.matches() || matcher.hitEnd()) {
                longest = end;
            }
        }
        return longest;
    }

    private void execute(String command) {
        String[] words = command.split("[ >,]");
        int[] numbers = new int[words.length];
        for (int i = 1; i < words.length; i++) {
            numbers[i] = Integer.parseInt(words[i]);
        }
        switch (words[0]) {
            case "block" -> addBlock(numbers[1]);
            case "point" -> addPoint(numbers[1], numbers[2], numbers[3]);
            case "link" -> addLink(numbers[1], numbers[2]);
            case "train" -> addTrain(numbers[1], numbers[2]);
            case "set" -> setRoute(numbers[1]);
            case "free" -> releaseRoute(numbers[1]);
            case "shut" -> shut(numbers[1]);
            case "open" -> open(numbers[1]);
            case "throw" -> throwPoint(numbers[1]);
            default -> pass(words.length == 1 ? 1 : numbers[1]);
        }
    }

    public int errorPosition() {
        element(error != null);
        return error;
    }

    public int failedCommand() {
        element(failed != null);
        return failed;
    }

    public int undo() {
        state(!past.isEmpty());
        now = past.removeLast();
        return past.size();
    }

    public int save() {
        saved = now.copy();
        return now.trains.size();
    }

    public int restore() {
        state(saved != null);
        now = saved.copy();
        past.clear();
        return now.trains.size();
    }
}
