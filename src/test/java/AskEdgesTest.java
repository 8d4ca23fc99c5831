/** The boundary cases of promises 2 to 9, the methods that only answer; one test each. */
final class AskEdgesTest {
    private static final int LEAST = Stage.LEAST;
    private static final int MOST = Stage.MOST;
    private static final int NONE = Stage.NONE;

    private AskEdgesTest() {
    }

    public static void main(String[] args) {
        upIs1OrElse0();
        upIsLeftByRefusedCalls();
        sizeAlsoWhileDown();
        membersAlsoWhileDown();
        failedAlsoWhileDown();
        failedIsMinus1IfNoneIs();
        growthAlsoWhileDown();
        growthIs1WithFewerThanSixGroups();
        growthIs2WhenComplete();
        groupsAlsoWhileDown();
        groupsGoFrom0To6();
        readWhileDown();
        readOutside();
        readInside();
        sumWhileDown();
        sumWrapsLikeAnInt();
        sumIsOverAllBlocks();
        askingChangesNothing();
        Due.finish();
    }

    /** Promise 2: "1 if the array is up, 0 if it is down": in every state. */
    private static void upIs1OrElse0() {
        for (Stage stage : Stage.allUp()) {
            Due.due(stage + ": up()", stage.make().up(), 1);
        }
        for (Stage stage : Stage.allDown()) {
            ReshapeArray x = stage.make();
            Due.due(stage + ": up()", x.up(), 0);
            x.mount();
            Due.due(stage + ": up() after mount", x.up(), 1);
        }
    }

    /** Promise 2 at its edge: a power loss or a mount that is refused doesn't turn it over. */
    private static void upIsLeftByRefusedCalls() {
        ReshapeArray x = Stage.of(0, 1).make();
        x.mount();
        Due.due("up() after a refused mount", x.up(), 1);
        x.writeCrash(0, 1, 0);
        Due.due("up() after a refused writeCrash", x.up(), 1);
        x.stepCrash(5);
        Due.due("up() after a refused stepCrash", x.up(), 1);
        x.crash();
        x.crash();
        Due.due("up() after a refused crash", x.up(), 0);
    }

    /** Promise 3: "24 or 48 (also while down)". */
    private static void sizeAlsoWhileDown() {
        for (Stage stage : Stage.all()) {
            Due.due(stage + ": size()", stage.make().size(), stage.size());
        }
    }

    /** Promise 4: "3 or 5 (also while down)". */
    private static void membersAlsoWhileDown() {
        for (Stage stage : Stage.all()) {
            Due.due(stage + ": members()", stage.make().members(), stage.members());
        }
    }

    /** Promise 5: "The number of the failed member (also while down)": from 0 to the last one. */
    private static void failedAlsoWhileDown() {
        for (Stage stage : Stage.all()) {
            Due.due(stage + ": failed()", stage.make().failed(), stage.failed);
        }
    }

    /** Promise 5: "-1 if none is": at first, after refused fails, and after replace. */
    private static void failedIsMinus1IfNoneIs() {
        ReshapeArray x = new ReshapeArray();
        Due.due("failed() at first", x.failed(), -1);
        x.fail(3);
        x.fail(-1);
        Due.due("failed() after refused fails", x.failed(), -1);
        x.crash();
        x.fail(0);
        Due.due("failed() after a fail while down", x.failed(), -1);
        x.mount();
        x.fail(0);
        Due.due("failed() with member 0 failed", x.failed(), 0);
        x.replace();
        Due.due("failed() after replace", x.failed(), -1);
    }

    /** Promise 6: "(also while down)". */
    private static void growthAlsoWhileDown() {
        for (Stage stage : Stage.all()) {
            Due.due(stage + ": growth()", stage.make().growth(), stage.growth());
        }
    }

    /** Promise 6: "0 if growth is not begun, 1 if it is begun and fewer than 6 groups ..". */
    private static void growthIs1WithFewerThanSixGroups() {
        ReshapeArray x = new ReshapeArray();
        Due.due("growth() before begin", x.growth(), 0);
        x.step();
        Due.due("growth() after a refused step", x.growth(), 0);
        x.begin();
        Due.due("growth() after begin, no group moved", x.growth(), 1);
        for (int i = 1; i <= 5; i++) {
            x.step();
            Due.due("growth() after " + i + " groups", x.growth(), 1);
        }
        x.stepCrash(3);
        Due.due("growth() after the sixth did not count", x.growth(), 1);
    }

    /** Promise 6: "2 if it is complete": by step or by stepCrash, and it stays so. */
    private static void growthIs2WhenComplete() {
        ReshapeArray x = Stage.of(5, NONE).make();
        x.step();
        Due.due("growth() after the sixth step", x.growth(), 2);
        x.step();
        x.begin();
        Due.due("growth() after refused calls", x.growth(), 2);
        ReshapeArray y = Stage.of(5, NONE).make();
        y.stepCrash(4);
        Due.due("growth() after the sixth by stepCrash", y.growth(), 2);
        y.mount();
        Due.due("growth() after mount", y.growth(), 2);
    }

    /** Promise 7: "(also while down)". */
    private static void groupsAlsoWhileDown() {
        for (Stage stage : Stage.all()) {
            Due.due(stage + ": groups()", stage.make().groups(), stage.moved());
        }
    }

    /** Promise 7: "0 .. 6; 0 before growth is begun": a seventh step doesn't count. */
    private static void groupsGoFrom0To6() {
        ReshapeArray x = new ReshapeArray();
        Due.due("groups() before begin", x.groups(), 0);
        x.step();
        x.stepCrash(4);
        Due.due("groups() after steps before begin", x.groups(), 0);
        x.begin();
        Due.due("groups() after begin", x.groups(), 0);
        for (int i = 1; i <= 8; i++) {
            x.step();
            Due.due("groups() after " + i + " steps", x.groups(), i < 6 ? i : 6);
        }
        x.stepCrash(4);
        Due.due("groups() after a stepCrash too many", x.groups(), 6);
    }

    /** Promise 8: "0 if the array is down": any block, also one outside. */
    private static void readWhileDown() {
        for (Stage stage : Stage.allDown()) {
            for (int b : stage.anyBlocks()) {
                stage.refused("read(" + b + ")", 0, x -> x.read(b));
            }
        }
    }

    /** Promise 8: "0 if .. b is not in 0 .. size()-1". */
    private static void readOutside() {
        for (Stage stage : Stage.allUp()) {
            for (int b : stage.blocksOutside()) {
                stage.refused("read(" + b + ")", 0, x -> x.read(b));
            }
        }
    }

    /** Promise 8: "What block b holds": the first and the last one, with the extreme values. */
    private static void readInside() {
        int[] extremes = {LEAST, LEAST + 1, -1, 0, 1, MOST - 1, MOST};
        for (Stage stage : Stage.allUp()) {
            ReshapeArray x = stage.make();
            stage.holds("as made", x);
            for (int b : stage.blocksInside()) {
                for (int value : extremes) {
                    x.write(b, value);
                    Due.due(stage + ": read(" + b + ")", x.read(b), value);
                }
            }
        }
    }

    /** Promise 9: "0 if the array is down". */
    private static void sumWhileDown() {
        for (Stage stage : Stage.allDown()) {
            stage.refused("sum()", 0, ReshapeArray::sum);
        }
    }

    private static void summed(String what, ReshapeArray x, int first, int second, int due) {
        x.write(0, first);
        x.write(x.size() - 1, second);
        Due.due(what + ": sum() with " + first + " and " + second, x.sum(), due);
    }

    /** Promise 9: "wrapping like an int": just not over the edge, just over it, and far over. */
    private static void sumWrapsLikeAnInt() {
        for (int groups = Stage.NOT_BEGUN; groups <= 6; groups++) {
            ReshapeArray x = Stage.of(groups, groups == 3 ? 2 : NONE).make();
            String what = "groups " + groups;
            x.fill(0, 24, 0, 0);
            x.fill(x.size() - 24, 24, 0, 0);
            summed(what, x, MOST - 1, 1, MOST);
            summed(what, x, MOST, 1, LEAST);
            summed(what, x, MOST, MOST, -2);
            summed(what, x, LEAST + 1, -1, LEAST);
            summed(what, x, LEAST, -1, MOST);
            summed(what, x, LEAST, LEAST, 0);
            summed(what, x, LEAST, MOST, -1);
            x.fill(0, 24, MOST, 0);
            x.fill(x.size() - 24, 24, MOST, 0);
            Due.due(what + ": sum() of all " + MOST, x.sum(), groups == 6 ? -48 : -24);
        }
    }

    /** Promise 9: "of what all blocks hold": from the first to the last, and no further. */
    private static void sumIsOverAllBlocks() {
        for (Stage stage : Stage.allUp()) {
            ReshapeArray x = stage.make();
            Due.due(stage + ": sum()", x.sum(), stage.heldSum());
            for (int b : stage.blocksInside()) {
                int before = x.sum();
                x.write(b, x.read(b) + 3);
                Due.due(stage + ": sum() after 3 more in " + b, x.sum(), before + 3);
            }
        }
    }

    /** Promises 2 to 9 answer and no more: asked in any state, nothing is changed. */
    private static void askingChangesNothing() {
        for (Stage stage : Stage.all()) {
            ReshapeArray x = stage.make();
            x.up();
            x.size();
            x.members();
            x.failed();
            x.growth();
            x.groups();
            x.read(0);
            x.read(stage.size() - 1);
            x.sum();
            stage.stands("after all was asked", x);
            stage.unchanged("all was asked", x);
        }
    }
}
