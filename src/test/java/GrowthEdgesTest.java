/** The boundary cases of promises 13 to 15: begin, step and stepCrash; one test each. */
final class GrowthEdgesTest {
    private static final int LEAST = Stage.LEAST;
    private static final int MOST = Stage.MOST;
    private static final int NONE = Stage.NONE;
    private static final int[] POINTS_INSIDE = {0, 1, 2, 3, 4};
    private static final int[] POINTS_OUTSIDE = {LEAST, LEAST + 1, -2, -1, 5, 6, MOST - 1, MOST};
    private static final int[] ANY_POINTS = Stage.join(POINTS_INSIDE, POINTS_OUTSIDE);

    private GrowthEdgesTest() {
    }

    public static void main(String[] args) {
        beginWhileDown();
        beginAgain();
        beginWithAFailedMember();
        beginOtherwise();
        stepWhileDown();
        stepWhileNothingGrows();
        stepOtherwise();
        theSixthStepCompletesGrowth();
        stepWithAFailedMember();
        stepCrashWhileDown();
        stepCrashWhileNothingGrows();
        stepCrashAtNoPoint();
        stepCrashAtPoints0To3DoesNotCount();
        stepCrashAtPoint4Counts();
        theSixthStepCrashCompletesGrowth();
        stepCrashTakesTheArrayDown();
        stepCrashWithAFailedMember();
        Due.finish();
    }

    /** Promise 13: "-1 if the array is down": begun or not, failed or not. */
    private static void beginWhileDown() {
        for (Stage stage : Stage.allDown()) {
            stage.refused("begin()", -1, ReshapeArray::begin);
        }
    }

    /** Promise 13: "-2 if growth has been begun before": also with a failed member. */
    private static void beginAgain() {
        for (Stage stage : Stage.allUp()) {
            if (stage.growth() != 0) {
                stage.refused("begin()", -2, ReshapeArray::begin);
            }
        }
        ReshapeArray x = new ReshapeArray();
        Due.due("begin()", x.begin(), 0);
        Due.due("begin() at once again", x.begin(), -2);
    }

    /** Promise 13: "-3 if a member is failed". */
    private static void beginWithAFailedMember() {
        for (Stage stage : Stage.allUp()) {
            if (stage.growth() == 0 && stage.failed != NONE) {
                stage.refused("begin()", -3, ReshapeArray::begin);
                ReshapeArray x = stage.make();
                x.replace();
                Due.due(stage + ": begin() after replace", x.begin(), 0);
            }
        }
    }

    /** Promise 13: "there are 5 members now, and no group has been moved .. otherwise 0". */
    private static void beginOtherwise() {
        for (Stage stage : Stage.allUp()) {
            if (stage.growth() == 0 && stage.failed == NONE) {
                ReshapeArray x = stage.make();
                Due.due(stage + ": begin()", x.begin(), 0);
                Due.due(stage + ": up()", x.up(), 1);
                Due.due(stage + ": size()", x.size(), 24);
                Due.due(stage + ": members()", x.members(), 5);
                Due.due(stage + ": failed()", x.failed(), NONE);
                Due.due(stage + ": growth()", x.growth(), 1);
                Due.due(stage + ": groups()", x.groups(), 0);
                Due.due(stage + ": scrub()", x.scrub(), 0);
                stage.holds("begun", x);
            }
        }
    }

    /** Promise 14: "-1 if the array is down": also where growth is not begun or is complete. */
    private static void stepWhileDown() {
        for (Stage stage : Stage.allDown()) {
            stage.refused("step()", -1, ReshapeArray::step);
        }
    }

    /** Promise 14: "-2 if growth is not begun or is complete". */
    private static void stepWhileNothingGrows() {
        for (Stage stage : Stage.allUp()) {
            if (!stage.isGrowing()) {
                stage.refused("step()", -2, ReshapeArray::step);
            }
        }
    }

    private static boolean grows(Stage stage, boolean lame) {
        return stage.isGrowing() && (stage.failed != NONE) == lame;
    }

    private static void grown(Stage stage, String when, ReshapeArray x, int up, int groups) {
        String what = stage + ": " + when + ": ";
        Due.due(what + "up()", x.up(), up);
        Due.due(what + "size()", x.size(), groups == 6 ? 48 : 24);
        Due.due(what + "members()", x.members(), 5);
        Due.due(what + "failed()", x.failed(), stage.failed);
        Due.due(what + "growth()", x.growth(), groups == 6 ? 2 : 1);
        Due.due(what + "groups()", x.groups(), groups);
    }

    private static void stepDone(boolean lame) {
        for (Stage stage : Stage.allUp()) {
            if (grows(stage, lame)) {
                ReshapeArray x = stage.make();
                Due.due(stage + ": step()", x.step(), stage.moved() + 1);
                grown(stage, "step", x, 1, stage.moved() + 1);
                stage.holds("step", x);
                x.replace();
                stage.holds("step, then replace", x);
                Due.due(stage + ": scrub() after step", x.scrub(), 0);
            }
        }
    }

    /** Promise 14: "otherwise answers how many groups have been moved now": 1 to 6. */
    private static void stepOtherwise() {
        stepDone(false);
    }

    /** Promise 14: "A member may be failed": any one, at any group. */
    private static void stepWithAFailedMember() {
        stepDone(true);
    }

    /** Promise 14: "When the sixth has been moved, growth is complete": not with the fifth. */
    private static void theSixthStepCompletesGrowth() {
        ReshapeArray x = Stage.of(4, NONE).make();
        Due.due("the fifth step", x.step(), 5);
        Due.due("growth() after the fifth", x.growth(), 1);
        Due.due("size() after the fifth", x.size(), 24);
        Due.due("the sixth step", x.step(), 6);
        Due.due("growth() after the sixth", x.growth(), 2);
        Due.due("size() after the sixth", x.size(), 48);
        Due.due("a seventh step", x.step(), -2);
        Due.due("groups() after a seventh", x.groups(), 6);
    }

    private static void stepCrashRefused(Stage stage, int[] points, int due) {
        for (int point : points) {
            stage.refused("stepCrash(" + point + ")", due, x -> x.stepCrash(point));
        }
    }

    /** Promise 15: "-1 if the array is down": also where nothing grows and at no point. */
    private static void stepCrashWhileDown() {
        for (Stage stage : Stage.allDown()) {
            stepCrashRefused(stage, ANY_POINTS, -1);
        }
    }

    /** Promise 15: "-2 if growth is not begun or is complete": also at no point. */
    private static void stepCrashWhileNothingGrows() {
        for (Stage stage : Stage.allUp()) {
            if (!stage.isGrowing()) {
                stepCrashRefused(stage, ANY_POINTS, -2);
            }
        }
    }

    /** Promise 15: "-3 if point is not in 0 .. 4". */
    private static void stepCrashAtNoPoint() {
        for (Stage stage : Stage.allUp()) {
            if (stage.isGrowing()) {
                stepCrashRefused(stage, POINTS_OUTSIDE, -3);
            }
        }
    }

    private static void stepCrashDone(boolean lame, int point, int counted) {
        for (Stage stage : Stage.allUp()) {
            if (grows(stage, lame)) {
                int groups = stage.moved() + counted;
                ReshapeArray x = stage.make();
                String call = "stepCrash(" + point + ")";
                Due.due(stage + ": " + call, x.stepCrash(point), groups);
                grown(stage, call, x, 0, groups);
                x.mount();
                grown(stage, call + ", mounted", x, 1, groups);
                stage.holds(call, x);
                x.replace();
                stage.holds(call + ", replaced", x);
                Due.due(stage + ": scrub() after " + call, x.scrub(), 0);
            }
        }
    }

    /** Promise 15: "for the points 0, 1, 2 and 3 the group does not count as moved". */
    private static void stepCrashAtPoints0To3DoesNotCount() {
        for (int point = 0; point <= 3; point++) {
            stepCrashDone(false, point, 0);
        }
    }

    /** Promise 15: "for point 4 it does". */
    private static void stepCrashAtPoint4Counts() {
        stepCrashDone(false, 4, 1);
    }

    /** Promise 15: "A member may be failed": any one, at any group and any point. */
    private static void stepCrashWithAFailedMember() {
        for (int point : POINTS_INSIDE) {
            stepCrashDone(true, point, point == 4 ? 1 : 0);
        }
    }

    /** Promise 15: "(and if it was the sixth, growth is complete)": not with the fifth. */
    private static void theSixthStepCrashCompletesGrowth() {
        ReshapeArray x = Stage.of(4, NONE).make();
        Due.due("the fifth stepCrash(4)", x.stepCrash(4), 5);
        Due.due("growth() after the fifth", x.growth(), 1);
        x.mount();
        Due.due("size() after the fifth", x.size(), 24);
        Due.due("the sixth stepCrash(3)", x.stepCrash(3), 5);
        Due.due("growth() after the sixth did not count", x.growth(), 1);
        x.mount();
        Due.due("the sixth stepCrash(4)", x.stepCrash(4), 6);
        Due.due("growth() after the sixth, while down", x.growth(), 2);
        Due.due("size() after the sixth, while down", x.size(), 48);
        x.mount();
        Due.due("a seventh stepCrash(4)", x.stepCrash(4), -2);
        Due.due("up() after a seventh", x.up(), 1);
        Due.due("write(47, 1) after the sixth", x.write(47, 1), 0);
    }

    /** Promise 15: "The array is down afterwards": at every point. */
    private static void stepCrashTakesTheArrayDown() {
        for (int point : POINTS_INSIDE) {
            ReshapeArray x = Stage.of(2, NONE).make();
            x.stepCrash(point);
            Due.due("up() after stepCrash(" + point + ")", x.up(), 0);
            Due.due("stepCrash again, point " + point, x.stepCrash(point), -1);
            Due.due("read(0) after stepCrash(" + point + ")", x.read(0), 0);
            Due.due("crash() after stepCrash(" + point + ")", x.crash(), -1);
            Due.due("mount() after stepCrash(" + point + ")", x.mount(), 0);
        }
    }
}
