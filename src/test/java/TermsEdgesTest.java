import java.util.function.ToIntFunction;

/** The boundary cases that the document's section "Terms" names, and promise 1; one test each. */
final class TermsEdgesTest {
    private static final int LEAST = Stage.LEAST;
    private static final int MOST = Stage.MOST;
    private static final int NONE = Stage.NONE;
    private static final int[] EXTREMES = {LEAST, MOST, -1, 0, 1, 0x55555555, LEAST + 1};

    private TermsEdgesTest() {
    }

    public static void main(String[] args) {
        sizeIs24UntilGrowthIsComplete();
        sizeIs48FromThenOn();
        allBlocksHoldZeroAtFirst();
        newBlocksHoldZeroWhenGrowthBecomesComplete();
        growthChangesNoBlock();
        powerLossChangesNoBlock();
        failureAndReplacementChangeNoBlock();
        whileDownNothingCanBeReadOrWritten();
        threeMembersUntilGrowthIsBegun();
        fiveMembersFromThenOn();
        noMemberIsFailedAtFirst();
        atMostOneMemberIsFailed();
        refusedCallsOneAfterTheOtherChangeNothing();
        theTestsAreMadeInTheOrderNamed();
        promise1EverythingAsSaid();
        the512thCallIsStillGood();
        Due.finish();
    }

    /** "size() is 24 until growth is COMPLETE": also with five groups and a sixth that failed. */
    private static void sizeIs24UntilGrowthIsComplete() {
        ReshapeArray x = new ReshapeArray();
        Due.due("size() of a new array", x.size(), 24);
        x.begin();
        for (int i = 0; i < 6; i++) {
            Due.due("size() after " + i + " groups", x.size(), 24);
            Due.due("write(23, 1) after " + i + " groups", x.write(23, 1), 0);
            Due.due("write(24, 1) after " + i + " groups", x.write(24, 1), -2);
            x.stepCrash(3);
            Due.due("size() while down, after " + i + " groups", x.size(), 24);
            x.mount();
            Due.due("size() mounted, after " + i + " groups", x.size(), 24);
            x.step();
        }
        Due.due("size() after 6 groups", x.size(), 48);
    }

    /** "and 48 from then on": whether the sixth group was moved by step or by stepCrash. */
    private static void sizeIs48FromThenOn() {
        ReshapeArray x = Stage.of(5, NONE).make();
        Due.due("the sixth stepCrash(4)", x.stepCrash(4), 6);
        Due.due("size() while down, after the sixth", x.size(), 48);
        x.mount();
        Due.due("size() after mount", x.size(), 48);
        Due.due("write(47, 1)", x.write(47, 1), 0);
        Due.due("write(48, 1)", x.write(48, 1), -2);
        x.begin();
        x.step();
        x.stepCrash(0);
        Due.due("size() after refused growth", x.size(), 48);
        x.fail(4);
        Due.due("size() with a failed member", x.size(), 48);
        x.crash();
        x.mount();
        x.replace();
        Due.due("size() after replace", x.size(), 48);
    }

    /** "All blocks hold 0 at first": whole, and with each member lost. */
    private static void allBlocksHoldZeroAtFirst() {
        for (int m = NONE; m < 3; m++) {
            ReshapeArray x = new ReshapeArray();
            x.fail(m);
            for (int b = 0; b < 24; b++) {
                Due.due("new, without member " + m + ": read(" + b + ")", x.read(b), 0);
            }
            Due.due("new, without member " + m + ": sum()", x.sum(), 0);
        }
    }

    /** "the blocks 24 .. 47 hold 0 when growth becomes complete" */
    private static void newBlocksHoldZeroWhenGrowthBecomesComplete() {
        for (int m = NONE; m < 5; m++) {
            newBlocksHoldZero("by step, member " + m, m, ReshapeArray::step);
            newBlocksHoldZero("by stepCrash, member " + m, m, x -> x.stepCrash(4));
        }
    }

    private static void newBlocksHoldZero(String how, int member,
            ToIntFunction<ReshapeArray> sixth) {
        ReshapeArray x = Stage.of(5, member).make();
        x.fill(0, 24, -1, 0);
        for (int b = 24; b < 48; b++) {
            Due.due(how + ": write(" + b + ", 5) too early", x.write(b, 5), -2);
        }
        Due.due(how + ": fill(24, 24, 5, 5) too early", x.fill(24, 24, 5, 5), -3);
        Due.due(how, sixth.applyAsInt(x), 6);
        x.mount();
        zeroBehind23(how, x);
        x.replace();
        zeroBehind23(how + ", replaced", x);
        for (int m = 0; m < 5; m++) {
            x.fail(m);
            zeroBehind23(how + ", then without " + m, x);
            x.replace();
        }
    }

    private static void zeroBehind23(String how, ReshapeArray x) {
        Due.due(how + ": read(23)", x.read(23), -1);
        for (int b = 24; b < 48; b++) {
            Due.due(how + ": read(" + b + ")", x.read(b), 0);
        }
        Due.due(how + ": sum()", x.sum(), -24);
    }

    private static int extreme(int b) {
        return EXTREMES[b % EXTREMES.length];
    }

    private static void putExtremes(ReshapeArray x) {
        for (int b = 0; b < x.size(); b++) {
            x.write(b, extreme(b));
        }
    }

    private static void extremesStand(String when, ReshapeArray x) {
        for (int b = 0; b < 24; b++) {
            Due.due(when + ": read(" + b + ")", x.read(b), extreme(b));
        }
    }

    /** "growth .. never change[s] what a block holds": neither its beginning nor any step. */
    private static void growthChangesNoBlock() {
        for (int m = NONE; m < 5; m++) {
            ReshapeArray x = new ReshapeArray();
            putExtremes(x);
            x.begin();
            extremesStand("begun", x);
            x.fail(m);
            for (int i = 1; i <= 6; i++) {
                Due.due("step " + i + " without member " + m, x.step(), i);
                extremesStand("after step " + i + " without member " + m, x);
            }
        }
    }

    /** "power loss .. never change[s] what a block holds": idle, in a write and in a step. */
    private static void powerLossChangesNoBlock() {
        for (Stage stage : Stage.allDown()) {
            ReshapeArray x = stage.make();
            Due.due(stage + ": mount()", x.mount(), 0);
            stage.holds("mounted", x);
        }
        for (int groups = Stage.NOT_BEGUN; groups <= 6; groups++) {
            ReshapeArray x = Stage.of(groups, NONE).make();
            putExtremes(x);
            for (int point = 0; point <= 3; point++) {
                Due.due("writeCrash(7, what it holds)", x.writeCrash(7, extreme(7), point), 0);
                x.mount();
                extremesStand("groups " + groups + ", the same written, point " + point, x);
            }
        }
    }

    /** "failure and replacement never change what a block holds": each member, one by one. */
    private static void failureAndReplacementChangeNoBlock() {
        for (int groups = Stage.NOT_BEGUN; groups <= 6; groups++) {
            int members = groups == Stage.NOT_BEGUN ? 3 : 5;
            ReshapeArray x = Stage.of(groups, NONE).make();
            putExtremes(x);
            for (int m = 0; m < members; m++) {
                String when = "groups " + groups + ", member " + m;
                Due.due(when + ": fail", x.fail(m), 0);
                extremesStand(when + " failed", x);
                Due.due(when + ": replace", x.replace(), m);
                extremesStand(when + " replaced", x);
            }
        }
    }

    /** "While it is down nothing can be read or written." */
    private static void whileDownNothingCanBeReadOrWritten() {
        for (Stage stage : Stage.allDown()) {
            ReshapeArray x = stage.make();
            for (int b = 0; b < stage.size(); b++) {
                Due.due(stage + ": read(" + b + ")", x.read(b), 0);
                Due.due(stage + ": write(" + b + ", 5)", x.write(b, 5), -1);
            }
            Due.due(stage + ": sum()", x.sum(), 0);
            Due.due(stage + ": fill(0, 24, 5, 5)", x.fill(0, 24, 5, 5), -1);
            Due.due(stage + ": writeCrash(0, 5, 1)", x.writeCrash(0, 5, 1), -1);
            x.mount();
            stage.holds("mounted after refused writes", x);
        }
    }

    /** "there are 3 until growth is begun": a begin that is refused doesn't count. */
    private static void threeMembersUntilGrowthIsBegun() {
        ReshapeArray x = new ReshapeArray();
        Due.due("members() of a new array", x.members(), 3);
        Due.due("fail(3) before begin", x.fail(3), -2);
        x.crash();
        x.begin();
        Due.due("members() after begin while down", x.members(), 3);
        x.mount();
        Due.due("fail(2) before begin", x.fail(2), 0);
        x.begin();
        Due.due("members() after begin with a failed member", x.members(), 3);
        x.replace();
        Due.due("fail(3) after refused begins", x.fail(3), -2);
    }

    /** "and 5 from then on": from begin itself, before any group is moved, to the end. */
    private static void fiveMembersFromThenOn() {
        ReshapeArray x = new ReshapeArray();
        x.begin();
        for (int i = 0; i <= 6; i++) {
            Due.due("members() after " + i + " groups", x.members(), 5);
            Due.due("fail(5) after " + i + " groups", x.fail(5), -2);
            Due.due("fail(4) after " + i + " groups", x.fail(4), 0);
            Due.due("replace() after " + i + " groups", x.replace(), 4);
            x.crash();
            Due.due("members() while down, after " + i + " groups", x.members(), 5);
            x.mount();
            x.step();
        }
    }

    /** "none is at first" */
    private static void noMemberIsFailedAtFirst() {
        ReshapeArray x = new ReshapeArray();
        Due.due("failed() of a new array", x.failed(), NONE);
        Due.due("replace() of a new array", x.replace(), -2);
        Due.due("scrub() of a new array", x.scrub(), 0);
        Due.due("failed() after a refused replace", x.failed(), NONE);
    }

    /** "At most one member is FAILED at a time": a second one is refused, whichever it is. */
    private static void atMostOneMemberIsFailed() {
        for (Stage stage : Stage.allUp()) {
            for (int m = 0; stage.failed != NONE && m < stage.members(); m++) {
                int second = m;
                stage.refused("fail(" + m + ") as well", -3, x -> x.fail(second));
            }
        }
        ReshapeArray x = Stage.of(3, 1).make();
        x.replace();
        Due.due("fail(1) after replace", x.fail(1), 0);
        x.replace();
        Due.due("fail(4) after replace", x.fail(4), 0);
        Due.due("failed() after one by one", x.failed(), 4);
    }

    /** "A refused call changes nothing": nor do many. Each one alone is tried with its promise. */
    private static void refusedCallsOneAfterTheOtherChangeNothing() {
        for (Stage stage : Stage.all()) {
            ReshapeArray x = stage.make();
            String made = stage.isUp() ? refuseWhileUp(stage, x) : refuseWhileDown(stage, x);
            stage.unchanged(made, x);
        }
    }

    private static String refuseWhileDown(Stage stage, ReshapeArray x) {
        int[] answers = {
            x.write(0, 1), x.fill(0, 24, 1, 1), x.writeCrash(0, 1, 0), x.writeCrash(0, 1, 3),
            x.begin(), x.step(), x.stepCrash(0), x.stepCrash(4), x.crash(), x.fail(0), x.fail(2),
            x.replace(), x.scrub(),
        };
        for (int i = 0; i < answers.length; i++) {
            Due.due(stage + ": call " + i + " while down", answers[i], -1);
        }
        return "13 refusals while down";
    }

    private static String refuseWhileUp(Stage stage, ReshapeArray x) {
        Due.due(stage + ": mount()", x.mount(), -1);
        for (int b : stage.blocksOutside()) {
            Due.due(stage + ": read(" + b + ")", x.read(b), 0);
            Due.due(stage + ": write(" + b + ", 1)", x.write(b, 1), -2);
            Due.due(stage + ": fill(" + b + ", 1, 1, 1)", x.fill(b, 1, 1, 1), -3);
            Due.due(stage + ": writeCrash(" + b + ", 1, 1)", x.writeCrash(b, 1, 1), -2);
        }
        Due.due(stage + ": fill(0, 25, 1, 1)", x.fill(0, 25, 1, 1), -2);
        Due.due(stage + ": writeCrash(0, 1, 4)", x.writeCrash(0, 1, 4), -3);
        Due.due(stage + ": stepCrash(5)", x.stepCrash(5), stage.isGrowing() ? -3 : -2);
        Due.due(stage + ": fail(members)", x.fail(stage.members()), -2);
        if (stage.failed == NONE) {
            Due.due(stage + ": replace()", x.replace(), -2);
        } else {
            Due.due(stage + ": writeCrash(0, 1, 1)", x.writeCrash(0, 1, 1), -4);
            Due.due(stage + ": fail(0)", x.fail(0), -3);
            Due.due(stage + ": scrub()", x.scrub(), -2);
        }
        if (stage.growth() != 0 || stage.failed != NONE) {
            Due.due(stage + ": begin()", x.begin(), stage.growth() == 0 ? -3 : -2);
        }
        if (!stage.isGrowing()) {
            Due.due(stage + ": step()", x.step(), -2);
        }
        return "refusals while up";
    }

    private static ReshapeArray downAfter(Stage stage) {
        ReshapeArray x = stage.make();
        x.crash();
        return x;
    }

    /** "In every method the tests are made in the order named": one reason fewer with each call. */
    private static void theTestsAreMadeInTheOrderNamed() {
        Stage lame = Stage.of(2, 1);
        Stage lameFresh = Stage.of(Stage.NOT_BEGUN, 1);
        Stage fresh = Stage.of(Stage.NOT_BEGUN, NONE);
        Stage whole = Stage.of(2, NONE);

        Due.due("write: down, b", downAfter(lame).write(24, 1), -1);
        Due.due("write: b", lame.make().write(24, 1), -2);
        Due.due("write", lame.make().write(23, 1), 0);

        Due.due("fill: down, count, b", downAfter(lame).fill(-1, 25, 1, 1), -1);
        Due.due("fill: count, b", lame.make().fill(-1, 25, 1, 1), -2);
        Due.due("fill: b", lame.make().fill(-1, 24, 1, 1), -3);
        Due.due("fill", lame.make().fill(0, 24, 1, 1), 0);

        Due.due("writeCrash: down, b, point, failed", downAfter(lame).writeCrash(24, 1, 4), -1);
        Due.due("writeCrash: b, point, failed", lame.make().writeCrash(24, 1, 4), -2);
        Due.due("writeCrash: point, failed", lame.make().writeCrash(23, 1, 4), -3);
        Due.due("writeCrash: failed", lame.make().writeCrash(23, 1, 3), -4);
        Due.due("writeCrash", whole.make().writeCrash(23, 1, 3), 0);

        Due.due("begin: down, begun, failed", downAfter(lame).begin(), -1);
        Due.due("begin: begun, failed", lame.make().begin(), -2);
        Due.due("begin: failed", lameFresh.make().begin(), -3);
        Due.due("begin", fresh.make().begin(), 0);

        Due.due("step: down, not begun", downAfter(fresh).step(), -1);
        Due.due("step: not begun", fresh.make().step(), -2);
        Due.due("step: down, complete", downAfter(Stage.of(6, 1)).step(), -1);
        Due.due("step: complete", Stage.of(6, 1).make().step(), -2);
        Due.due("step", lame.make().step(), 3);

        Due.due("stepCrash: down, not begun, point", downAfter(fresh).stepCrash(5), -1);
        Due.due("stepCrash: not begun, point", fresh.make().stepCrash(5), -2);
        Due.due("stepCrash: complete, point", Stage.of(6, 1).make().stepCrash(-1), -2);
        Due.due("stepCrash: point", lame.make().stepCrash(5), -3);
        Due.due("stepCrash", lame.make().stepCrash(4), 3);

        Due.due("fail: down, m, failed", downAfter(lame).fail(5), -1);
        Due.due("fail: m, failed", lame.make().fail(5), -2);
        Due.due("fail: failed", lame.make().fail(4), -3);
        Due.due("fail", whole.make().fail(4), 0);

        Due.due("replace: down, none failed", downAfter(whole).replace(), -1);
        Due.due("replace: none failed", whole.make().replace(), -2);
        Due.due("replace", lame.make().replace(), 1);

        Due.due("scrub: down, failed", downAfter(lame).scrub(), -1);
        Due.due("scrub: failed", lame.make().scrub(), -2);
        Due.due("scrub", whole.make().scrub(), 0);
    }

    /** Promise 1: "Everything as said above." Nor does an object start where another one is. */
    private static void promise1EverythingAsSaid() {
        ReshapeArray other = Stage.of(6, 2).make();
        ReshapeArray x = new ReshapeArray();
        Due.due("new: up()", x.up(), 1);
        Due.due("new: size()", x.size(), 24);
        Due.due("new: members()", x.members(), 3);
        Due.due("new: failed()", x.failed(), NONE);
        Due.due("new: growth()", x.growth(), 0);
        Due.due("new: groups()", x.groups(), 0);
        Due.due("new: sum()", x.sum(), 0);
        Due.due("new: scrub()", x.scrub(), 0);
        Due.due("new: mount() of an array that is up", x.mount(), -1);
        Due.due("new: step() before begin", x.step(), -2);
        for (int b = -1; b <= 48; b++) {
            Due.due("new: read(" + b + ")", x.read(b), 0);
        }
        Stage.of(6, 2).stands("beside a new one", other);
    }

    /** "An object is used for at most 512 calls": the last of them is answered like the first. */
    private static void the512thCallIsStillGood() {
        ReshapeArray x = new ReshapeArray();
        x.begin();
        for (int i = 2; i < 512; i++) {
            x.write(i % 24, i);
        }
        Due.due("the 512th call, read(7)", x.read(7), 511);
        ReshapeArray y = new ReshapeArray();
        for (int i = 1; i < 512; i++) {
            y.mount();
        }
        Due.due("the 512th call, begin()", y.begin(), 0);
        Due.due("members() after it", y.members(), 5);
    }
}
