/** Boxes to begin tests with, and short words for long runs of calls. */
final class Boxes {
    private Boxes() {
    }

    /** A box with blocks of the given lengths. */
    static InterlockingBox withBlocks(int... lengths) {
        InterlockingBox box = new InterlockingBox();
        for (int length : lengths) {
            box.addBlock(length);
        }
        return box;
    }

    /** A box with so many blocks of length 1. */
    static InterlockingBox ones(int blocks) {
        int[] lengths = new int[blocks];
        java.util.Arrays.fill(lengths, 1);
        return withBlocks(lengths);
    }

    /**
     * Fills all that a call could spoil besides the state and its past: the saved state, the output line, the records
     * of errors, and the program buffer, which then holds "wai".
     */
    static InterlockingBox laden(InterlockingBox box) {
        box.save();
        errorIn(box, "wait;x");
        errorIn(box, "wait;set 999");
        box.writeBlocks();
        type(box, "wai");
        return box;
    }

    /** Blocks in a row, each one linked to the one after it. */
    static InterlockingBox row(int... lengths) {
        InterlockingBox box = withBlocks(lengths);
        for (int i = 0; i + 1 < lengths.length; i++) {
            box.addLink(i, i + 1);
        }
        return box;
    }

    /** Blocks in a circle, each one linked to the one after it. */
    static InterlockingBox circle(int... lengths) {
        InterlockingBox box = row(lengths);
        box.addLink(lengths.length - 1, 0);
        return box;
    }

    /** Block 0 leads by a point to 1 on the left and 2 on the right, and both lead to 3. */
    static InterlockingBox diamond(int length0, int length1, int length2, int length3) {
        InterlockingBox box = withBlocks(length0, length1, length2, length3);
        box.addPoint(0, 1, 2);
        box.addLink(1, 3);
        box.addLink(2, 3);
        return box;
    }

    static void type(InterlockingBox box, String text) {
        for (int i = 0; i < text.length(); i++) {
            box.type(text.charAt(i));
        }
    }

    static int run(InterlockingBox box, String text) {
        type(box, text);
        return box.run();
    }

    /** The position of the error that the text is refused for, or -1 if it runs or fails as a program. */
    static int errorIn(InterlockingBox box, String text) {
        type(box, text);
        try {
            box.run();
        } catch (UnsupportedOperationException e) {
            return -1;
        } catch (IllegalArgumentException e) {
            return box.errorPosition();
        }
        return -1;
    }

    static String line(InterlockingBox box, int length) {
        StringBuilder line = new StringBuilder();
        for (int i = 0; i < length; i++) {
            line.append(box.charAt(i));
        }
        return line.toString();
    }

    static String blocks(InterlockingBox box) {
        return line(box, box.writeBlocks());
    }

    static String train(InterlockingBox box, int train) {
        return line(box, box.writeTrain(train));
    }

    static String queue(InterlockingBox box) {
        StringBuilder queue = new StringBuilder();
        for (int i = 0; i < 8; i++) {
            try {
                queue.append(box.queued(i)).append(' ');
            } catch (java.util.NoSuchElementException e) {
                return queue.toString().trim();
            }
        }
        return queue.toString().trim();
    }
}
