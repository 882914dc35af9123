/** Everything that can be asked of a box without changing it, the output line as it stands among it. */
final class Picture {
    private Picture() {
    }

    static String of(InterlockingBox box) {
        StringBuilder picture = new StringBuilder(stateOf(box));
        add(picture, "reason", () -> (int) box.refusalReason());
        add(picture, "refused", box::refusalBlock);
        add(picture, "error", box::errorPosition);
        add(picture, "failed", box::failedCommand);
        picture.append("line ");
        for (int i = 0; !(Checks.thrownBy(asCall(box, i)) instanceof Class); i++) {
            picture.append(box.charAt(i));
        }
        return picture.toString();
    }

    /** What undo and restore bring back. */
    static String stateOf(InterlockingBox box) {
        StringBuilder picture = new StringBuilder();
        add(picture, "time", box::time);
        add(picture, "trains", box::trains);
        add(picture, "arrived", box::arrived);
        add(picture, "delays", box::totalDelay);
        add(picture, "mean", box::meanDelay);
        add(picture, "share", box::usedShare);
        add(picture, "deadlocked", box::deadlocked);
        add(picture, "most", box::mostWithoutConflict);
        add(picture, "consistent", box::isConsistent);
        picture.append("queue ").append(Boxes.queue(box)).append('\n');
        addLine(picture, box);
        addTrains(picture, box);
        return picture.toString();
    }

    private static void addLine(StringBuilder picture, InterlockingBox box) {
        add(picture, "blocks", box::blocks);
        for (int i = 0; i < box.blocks(); i++) {
            int block = i;
            picture.append("block ").append(block).append(' ').append(box.blockLength(block));
            picture.append(box.blockState(block));
            add(picture, "", () -> box.trainAt(block));
            for (int j = 0; j < box.blocks(); j++) {
                int to = j;
                picture.append(box.paths(block, to)).append(' ');
                add(picture, "", () -> box.routeLength(block, to));
                add(picture, "", () -> box.routeLengthByPaths(block, to));
                for (int p = 1; box.paths(block, to) > 0 && p < box.blocks(); p++) {
                    int position = p;
                    add(picture, "", () -> box.routeBlock(block, to, position));
                }
            }
        }
        for (int i = 0; i < 8; i++) {
            int point = i;
            add(picture, "left", () -> box.liesLeft(point));
            add(picture, "locked", () -> box.lockedBy(point));
        }
    }

    private static void addTrains(StringBuilder picture, InterlockingBox box) {
        for (int i = 0; i < 64; i++) {
            int train = i;
            if (box.isPresent(train)) {
                picture.append("train ").append(train).append(' ').append(box.blockOf(train));
                picture.append(' ').append(box.destination(train)).append(' ').append(box.delay(train));
                picture.append(' ').append(box.isClear(train)).append(' ').append(box.hasRoute(train));
                add(picture, "", () -> box.minutesUntilNext(train));
                add(picture, "", () -> box.minutesUntilArrival(train));
            }
        }
    }

    private static Checks.Call asCall(InterlockingBox box, int index) {
        return () -> box.charAt(index);
    }

    private static void add(StringBuilder picture, String name, Checks.Call call) {
        Object answer;
        try {
            answer = call.answer();
        } catch (RuntimeException e) {
            answer = e.getClass().getSimpleName();
        }
        picture.append(name).append(' ').append(answer).append('\n');
    }
}
