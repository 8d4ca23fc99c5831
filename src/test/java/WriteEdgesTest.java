/** The boundary cases of promises 10 to 12: write, fill and writeCrash; one test each. */
final class WriteEdgesTest {
    private static final int LEAST = Stage.LEAST;
    private static final int MOST = Stage.MOST;
    private static final int NONE = Stage.NONE;
    private static final int[] VALUES = {LEAST, LEAST + 1, -1, 0, 1, MOST - 1, MOST};
    private static final int[] COUNTS_INSIDE = {1, 2, 23, 24};
    private static final int[] COUNTS_OUTSIDE = {LEAST, LEAST + 1, -1, 0, 25, 26, 48, MOST};
    private static final int[] POINTS_INSIDE = {0, 1, 2, 3};
    private static final int[] POINTS_OUTSIDE = {LEAST, LEAST + 1, -2, -1, 4, 5, MOST - 1, MOST};
    private static final int[] ANY_POINTS = {LEAST, -1, 0, 3, 4, MOST};

    private WriteEdgesTest() {
    }

    public static void main(String[] args) {
        writeWhileDown();
        writeOutside();
        writeInside();
        fillWhileDown();
        fillOfTooFewOrTooMany();
        fillBeyondTheEnds();
        fillUpToTheEnds();
        fillWrapsLikeInts();
        writeCrashWhileDown();
        writeCrashOutside();
        writeCrashAtNoPoint();
        writeCrashWithAFailedMember();
        writeCrashAtPoint0Keeps();
        writeCrashAtTheOtherPointsWrites();
        writeCrashTakesTheArrayDown();
        Due.finish();
    }

    /** Promise 10: "-1 if the array is down": also where b is outside as well. */
    private static void writeWhileDown() {
        for (Stage stage : Stage.allDown()) {
            for (int b : stage.anyBlocks()) {
                stage.refused("write(" + b + ", 5)", -1, x -> x.write(b, 5));
            }
        }
    }

    /** Promise 10: "-2 if b is not in 0 .. size()-1". */
    private static void writeOutside() {
        for (Stage stage : Stage.allUp()) {
            for (int b : stage.blocksOutside()) {
                stage.refused("write(" + b + ", 5)", -2, x -> x.write(b, 5));
            }
        }
    }

    /** Promise 10: "otherwise 0": the first and the last block, any value, and no other block. */
    private static void writeInside() {
        for (Stage stage : Stage.allUp()) {
            for (int b : stage.blocksInside()) {
                ReshapeArray x = stage.make();
                for (int value : VALUES) {
                    String call = stage + ": write(" + b + ", " + value + ")";
                    Due.due(call, x.write(b, value), 0);
                    Due.due(call + ": read", x.read(b), value);
                }
                stage.stateStands("written", x, 1, stage.failed);
                stage.holdsBut("written " + b, x, b, 1);
                x.replace();
                Due.due(stage + ": read(" + b + ") after replace", x.read(b), MOST);
                stage.holdsBut("written " + b + ", replaced", x, b, 1);
            }
        }
    }

    /** Promise 11: "-1 if the array is down": also where count and b are wrong as well. */
    private static void fillWhileDown() {
        for (Stage stage : Stage.allDown()) {
            fillRefused(stage, COUNTS_INSIDE, new int[] {0, -1, MOST}, -1);
            fillRefused(stage, new int[] {LEAST, 0, 25, MOST}, new int[] {LEAST, 0, 48}, -1);
        }
    }

    private static void fillRefused(Stage stage, int[] counts, int[] blocks, int due) {
        for (int count : counts) {
            for (int b : blocks) {
                stage.refused("fill(" + b + ", " + count + ", 5, 1)", due,
                    x -> x.fill(b, count, 5, 1));
            }
        }
    }

    /** Promise 11: "-2 if count is not in 1 .. 24": also where b is outside as well. */
    private static void fillOfTooFewOrTooMany() {
        for (Stage stage : Stage.allUp()) {
            int last = stage.size() - 1;
            fillRefused(stage, COUNTS_OUTSIDE, new int[] {LEAST, -1, 0, last, last + 1, MOST}, -2);
        }
    }

    /** Promise 11: "-3 if b < 0 or b > size() - count". */
    private static void fillBeyondTheEnds() {
        for (Stage stage : Stage.allUp()) {
            for (int count : COUNTS_INSIDE) {
                int beyond = stage.size() - count + 1;
                int[] blocks = {LEAST, LEAST + 1, -24, -1, beyond, beyond + 1, stage.size(),
                    MOST - 24, MOST - 1, MOST};
                fillRefused(stage, new int[] {count}, blocks, -3);
            }
        }
    }

    /** Promise 11: "otherwise 0": from the first block on, up to the last one, and no other. */
    private static void fillUpToTheEnds() {
        for (Stage stage : Stage.allUp()) {
            for (int count : COUNTS_INSIDE) {
                int last = stage.size() - count;
                filledAt(stage, 0, count);
                filledAt(stage, last, count);
                if (last > 0) {
                    filledAt(stage, 1, count);
                    filledAt(stage, last - 1, count);
                }
            }
        }
    }

    private static void filledAt(Stage stage, int b, int count) {
        ReshapeArray x = stage.make();
        String call = "fill(" + b + ", " + count + ", -5, 3)";
        Due.due(stage + ": " + call, x.fill(b, count, -5, 3), 0);
        for (int i = 0; i < count; i++) {
            Due.due(stage + ": " + call + ": read(" + (b + i) + ")", x.read(b + i), 3 * i - 5);
        }
        stage.stateStands(call, x, 1, stage.failed);
        stage.holdsBut(call, x, b, count);
    }

    /** Promise 11: "wrapping like ints": over either edge, by small steps and by the largest. */
    private static void fillWrapsLikeInts() {
        ReshapeArray x = new ReshapeArray();
        Due.due("fill(21, 3, MOST - 1, 1)", x.fill(21, 3, MOST - 1, 1), 0);
        Due.due("just inside", x.read(21), MOST - 1);
        Due.due("at the edge", x.read(22), MOST);
        Due.due("just over it", x.read(23), LEAST);
        Due.due("fill(0, 3, LEAST + 1, -1)", x.fill(0, 3, LEAST + 1, -1), 0);
        Due.due("just inside, below", x.read(0), LEAST + 1);
        Due.due("at the edge, below", x.read(1), LEAST);
        Due.due("just over it, below", x.read(2), MOST);
        for (int value : VALUES) {
            for (int step : VALUES) {
                wrapped(Stage.of(Stage.NOT_BEGUN, NONE), value, step);
                wrapped(Stage.of(3, 1), value, step);
                wrapped(Stage.of(6, 4), value, step);
            }
        }
    }

    private static void wrapped(Stage stage, int value, int step) {
        ReshapeArray x = stage.make();
        int b = stage.size() - 24;
        String call = stage + ": fill(" + b + ", 24, " + value + ", " + step + ")";
        Due.due(call, x.fill(b, 24, value, step), 0);
        for (int i = 0; i < 24; i++) {
            // Reckoned without wrapping, then cut to the int that is left of it.
            long far = value + (long) i * step;
            Due.due(call + ": read(" + (b + i) + ")", x.read(b + i), (int) far);
        }
    }

    private static void writeCrashRefused(Stage stage, int[] blocks, int[] points, int due) {
        for (int b : blocks) {
            for (int point : points) {
                stage.refused("writeCrash(" + b + ", 5, " + point + ")", due,
                    x -> x.writeCrash(b, 5, point));
            }
        }
    }

    /** Promise 12: "-1 if the array is down": also where all else is wrong as well. */
    private static void writeCrashWhileDown() {
        for (Stage stage : Stage.allDown()) {
            int[] blocks = {LEAST, -1, 0, stage.size() - 1, stage.size(), MOST};
            writeCrashRefused(stage, blocks, ANY_POINTS, -1);
        }
    }

    /** Promise 12: "-2 if b is not in 0 .. size()-1": also at no point, or with a failed member. */
    private static void writeCrashOutside() {
        for (Stage stage : Stage.allUp()) {
            writeCrashRefused(stage, stage.blocksOutside(), ANY_POINTS, -2);
        }
    }

    /** Promise 12: "-3 if point is not in 0 .. 3": also with a failed member. */
    private static void writeCrashAtNoPoint() {
        for (Stage stage : Stage.allUp()) {
            writeCrashRefused(stage, stage.blocksInside(), POINTS_OUTSIDE, -3);
        }
    }

    /** Promise 12: "-4 if a member is failed". */
    private static void writeCrashWithAFailedMember() {
        for (Stage stage : Stage.allUp()) {
            if (stage.failed != NONE) {
                writeCrashRefused(stage, stage.blocksInside(), POINTS_INSIDE, -4);
            }
        }
    }

    private static void writeCrashDone(int point, boolean keeps) {
        for (Stage stage : Stage.allUp()) {
            for (int b = 0; stage.failed == NONE && b < stage.size(); b++) {
                int value = VALUES[b % VALUES.length];
                ReshapeArray x = stage.make();
                String call = "writeCrash(" + b + ", " + value + ", " + point + ")";
                Due.due(stage + ": " + call, x.writeCrash(b, value, point), 0);
                x.mount();
                Due.due(stage + ": " + call + ": read", x.read(b), keeps ? stage.held(b) : value);
                stage.stateStands(call + ", mounted", x, 1, NONE);
                stage.holdsBut(call, x, b, 1);
                Due.due(stage + ": " + call + ": scrub()", x.scrub(), 0);
            }
        }
    }

    /** Promise 12: "for point 0 the block keeps what it held". */
    private static void writeCrashAtPoint0Keeps() {
        writeCrashDone(0, true);
    }

    /** Promise 12: "for the points 1, 2 and 3 it gets the value". */
    private static void writeCrashAtTheOtherPointsWrites() {
        writeCrashDone(1, false);
        writeCrashDone(2, false);
        writeCrashDone(3, false);
    }

    /** Promise 12: "The array is down afterwards": at every point. */
    private static void writeCrashTakesTheArrayDown() {
        for (Stage stage : Stage.allUp()) {
            for (int point = 0; stage.failed == NONE && point <= 3; point++) {
                ReshapeArray x = stage.make();
                String call = stage + ": writeCrash(1, 5, " + point + ")";
                Due.due(call, x.writeCrash(1, 5, point), 0);
                stage.stateStands("writeCrash at " + point, x, 0, NONE);
                Due.due(call + " again", x.writeCrash(1, 5, point), -1);
                Due.due(call + ": read(1)", x.read(1), 0);
                Due.due(call + ": crash()", x.crash(), -1);
                Due.due(call + ": mount()", x.mount(), 0);
            }
        }
    }
}
