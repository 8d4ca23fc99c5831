/** The boundary cases of promises 16 to 20: crash, mount, fail, replace, scrub; one test each. */
final class PowerAndMemberEdgesTest {
    private static final int LEAST = Stage.LEAST;
    private static final int MOST = Stage.MOST;
    private static final int NONE = Stage.NONE;

    private PowerAndMemberEdgesTest() {
    }

    public static void main(String[] args) {
        crashWhileDown();
        crashOtherwise();
        mountWhileUp();
        mountOtherwise();
        failWhileDown();
        failOutside();
        failWhileOneIsFailed();
        failOtherwise();
        replaceWhileDown();
        replaceOfNone();
        replaceOtherwise();
        scrubWhileDown();
        scrubWithAFailedMember();
        scrubIsAlways0();
        Due.finish();
    }

    /** Promise 16: "-1 if it is down already": also after a write or a step that was cut off. */
    private static void crashWhileDown() {
        for (Stage stage : Stage.allDown()) {
            stage.refused("crash()", -1, ReshapeArray::crash);
        }
    }

    /** Promise 16: "the array goes down .. otherwise 0": and nothing else. */
    private static void crashOtherwise() {
        for (Stage stage : Stage.allUp()) {
            ReshapeArray x = stage.make();
            Due.due(stage + ": crash()", x.crash(), 0);
            stage.stateStands("crash", x, 0, stage.failed);
            x.mount();
            stage.holds("crash, then mount", x);
        }
    }

    /** Promise 17: "-1 if it is up already". */
    private static void mountWhileUp() {
        for (Stage stage : Stage.allUp()) {
            stage.refused("mount()", -1, ReshapeArray::mount);
        }
    }

    /** Promise 17: "The array comes up .. otherwise 0": once, and nothing else. */
    private static void mountOtherwise() {
        for (Stage stage : Stage.allDown()) {
            ReshapeArray x = stage.make();
            Due.due(stage + ": mount()", x.mount(), 0);
            stage.stateStands("mount", x, 1, stage.failed);
            stage.holds("mount", x);
            Due.due(stage + ": mount() again", x.mount(), -1);
        }
    }

    private static int[] membersOutside(Stage stage) {
        int members = stage.members();
        return new int[] {LEAST, LEAST + 1, -2, -1, members, members + 1, MOST - 1, MOST};
    }

    private static void failRefused(Stage stage, int m, int due) {
        stage.refused("fail(" + m + ")", due, x -> x.fail(m));
    }

    /** Promise 18: "-1 if the array is down": any number, failed or not. */
    private static void failWhileDown() {
        for (Stage stage : Stage.allDown()) {
            for (int m = 0; m < stage.members(); m++) {
                failRefused(stage, m, -1);
            }
            for (int m : membersOutside(stage)) {
                failRefused(stage, m, -1);
            }
        }
    }

    /** Promise 18: "-2 if m is not in 0 .. members()-1": also while one is failed. */
    private static void failOutside() {
        for (Stage stage : Stage.allUp()) {
            for (int m : membersOutside(stage)) {
                failRefused(stage, m, -2);
            }
        }
    }

    /** Promise 18: "-3 if a member is failed already": the same one or another. */
    private static void failWhileOneIsFailed() {
        for (Stage stage : Stage.allUp()) {
            for (int m = 0; stage.failed != NONE && m < stage.members(); m++) {
                failRefused(stage, m, -3);
            }
        }
    }

    /** Promise 18: "otherwise 0": the first member to the last, and no block changes. */
    private static void failOtherwise() {
        for (Stage stage : Stage.allUp()) {
            for (int m = 0; stage.failed == NONE && m < stage.members(); m++) {
                ReshapeArray x = stage.make();
                Due.due(stage + ": fail(" + m + ")", x.fail(m), 0);
                stage.stateStands("fail(" + m + ")", x, 1, m);
                stage.holds("fail(" + m + ")", x);
            }
        }
    }

    /** Promise 19: "-1 if the array is down": also if no member is failed. */
    private static void replaceWhileDown() {
        for (Stage stage : Stage.allDown()) {
            stage.refused("replace()", -1, ReshapeArray::replace);
        }
    }

    /** Promise 19: "-2 if no member is failed". */
    private static void replaceOfNone() {
        for (Stage stage : Stage.allUp()) {
            if (stage.failed == NONE) {
                stage.refused("replace()", -2, ReshapeArray::replace);
            }
        }
    }

    /**
     * Promise 19: "no member is failed afterwards .. otherwise answers the number of the replaced
     * member": from 0 on, and the new one holds what it should when another one is lost.
     */
    private static void replaceOtherwise() {
        for (Stage stage : Stage.allUp()) {
            if (stage.failed != NONE) {
                ReshapeArray x = stage.make();
                Due.due(stage + ": replace()", x.replace(), stage.failed);
                stage.stateStands("replace", x, 1, NONE);
                stage.holds("replace", x);
                Due.due(stage + ": replace() again", x.replace(), -2);
                int next = stage.failed == 0 ? stage.members() - 1 : stage.failed - 1;
                Due.due(stage + ": fail(" + next + ") after replace", x.fail(next), 0);
                stage.holds("another one lost after replace", x);
                Due.due(stage + ": replace() of another", x.replace(), next);
            }
        }
    }

    /** Promise 20: "-1 if the array is down": also with a failed member. */
    private static void scrubWhileDown() {
        for (Stage stage : Stage.allDown()) {
            stage.refused("scrub()", -1, ReshapeArray::scrub);
        }
    }

    /** Promise 20: "-2 if a member is failed". */
    private static void scrubWithAFailedMember() {
        for (Stage stage : Stage.allUp()) {
            if (stage.failed != NONE) {
                stage.refused("scrub()", -2, ReshapeArray::scrub);
            }
        }
    }

    /** Promise 20: "always 0": whatever went before; and looking changes nothing. */
    private static void scrubIsAlways0() {
        for (Stage stage : Stage.allUp()) {
            if (stage.failed == NONE) {
                stage.refused("scrub()", 0, ReshapeArray::scrub);
            }
            ReshapeArray x = stage.make();
            x.write(0, LEAST);
            x.write(stage.size() - 1, MOST);
            x.fill(stage.size() - 24, 24, -1, MOST);
            x.replace();
            Due.due(stage + ": scrub() after writes and replace", x.scrub(), 0);
            x.step();
            Due.due(stage + ": scrub() after one step more", x.scrub(), 0);
            x.writeCrash(0, MOST, 2);
            x.mount();
            Due.due(stage + ": scrub() after a write cut off", x.scrub(), 0);
        }
    }
}
