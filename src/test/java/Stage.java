import java.util.ArrayList;
import java.util.Arrays;
import java.util.List;
import java.util.function.ToIntFunction;

/**
 * A state that an array can stand in: how far it has grown, which member is failed, how power was
 * lost and whether it was mounted since. It tells what is due there by counting, not by asking the
 * program.
 */
final class Stage {
    static final int LEAST = Integer.MIN_VALUE;
    static final int MOST = Integer.MAX_VALUE;
    static final int NOT_BEGUN = -1;
    static final int NONE = -1;

    private static final int CRASHED_BLOCK = 9;
    private static final int CRASHED_VALUE = -77;
    // Far apart in their bits, so that a value mixed up with another one shows.
    private static final int SPREAD = 1_000_003;

    private enum Loss { NO_LOSS, CRASH, WRITE_CRASH, STEP_CRASH }

    final int groups;
    final int failed;
    private final Loss loss;
    private final int point;
    private final boolean mounted;
    private int[] untouched;

    private Stage(int groups, int failed, Loss loss, int point, boolean mounted) {
        this.groups = groups;
        this.failed = failed;
        this.loss = loss;
        this.point = point;
        this.mounted = mounted;
    }

    /** An array that is up and has not lost power yet. */
    static Stage of(int groups, int failed) {
        return new Stage(groups, failed, Loss.NO_LOSS, 0, false);
    }

    static List<Stage> all() {
        List<Stage> stages = new ArrayList<>();
        for (int groups = NOT_BEGUN; groups <= 6; groups++) {
            int members = groups == NOT_BEGUN ? 3 : 5;
            for (int failed = NONE; failed < members; failed++) {
                stages.add(of(groups, failed));
                addLosses(stages, groups, failed);
            }
        }
        return stages;
    }

    private static void addLosses(List<Stage> stages, int groups, int failed) {
        addLoss(stages, groups, failed, Loss.CRASH, 0);
        for (int point = 0; failed == NONE && point <= 3; point++) {
            addLoss(stages, groups, failed, Loss.WRITE_CRASH, point);
        }
        for (int point = 0; groups >= 0 && groups < 6 && point <= 4; point++) {
            addLoss(stages, groups, failed, Loss.STEP_CRASH, point);
        }
    }

    private static void addLoss(List<Stage> stages, int groups, int failed, Loss loss, int point) {
        stages.add(new Stage(groups, failed, loss, point, false));
        stages.add(new Stage(groups, failed, loss, point, true));
    }

    static List<Stage> allUp() {
        List<Stage> stages = all();
        stages.removeIf(stage -> !stage.isUp());
        return stages;
    }

    static List<Stage> allDown() {
        List<Stage> stages = all();
        stages.removeIf(Stage::isUp);
        return stages;
    }

    /** An array in this state: 13 calls at the most. */
    ReshapeArray make() {
        ReshapeArray x = new ReshapeArray();
        x.fill(0, 24, SPREAD, SPREAD);
        if (groups != NOT_BEGUN) {
            x.begin();
        }
        for (int i = 0; i < groups; i++) {
            x.step();
        }
        if (groups == 6) {
            x.fill(24, 24, 25 * SPREAD, SPREAD);
        }
        if (failed != NONE) {
            x.fail(failed);
        }
        losePower(x);
        return x;
    }

    private void losePower(ReshapeArray x) {
        switch (loss) {
            case CRASH -> x.crash();
            case WRITE_CRASH -> x.writeCrash(CRASHED_BLOCK, CRASHED_VALUE, point);
            case STEP_CRASH -> x.stepCrash(point);
            default -> { }
        }
        if (mounted) {
            x.mount();
        }
    }

    boolean isUp() {
        return loss == Loss.NO_LOSS || mounted;
    }

    int moved() {
        int counted = loss == Loss.STEP_CRASH && point == 4 ? 1 : 0;
        return groups == NOT_BEGUN ? 0 : groups + counted;
    }

    int size() {
        return moved() == 6 ? 48 : 24;
    }

    int members() {
        return groups == NOT_BEGUN ? 3 : 5;
    }

    int growth() {
        return groups == NOT_BEGUN ? 0 : moved() == 6 ? 2 : 1;
    }

    boolean isGrowing() {
        return growth() == 1;
    }

    /** What block b holds, also if it can't be read now. */
    int held(int b) {
        if (loss == Loss.WRITE_CRASH && point > 0 && b == CRASHED_BLOCK) {
            return CRASHED_VALUE;
        }
        return b < 24 || groups == 6 ? (b + 1) * SPREAD : 0;
    }

    int heldSum() {
        int total = 0;
        for (int b = 0; b < size(); b++) {
            total += held(b);
        }
        return total;
    }

    int[] blocksInside() {
        return new int[] {0, 1, size() - 2, size() - 1};
    }

    int[] blocksOutside() {
        return new int[] {LEAST, LEAST + 1, -2, -1, size(), size() + 1, MOST - 1, MOST};
    }

    int[] anyBlocks() {
        return join(blocksInside(), blocksOutside());
    }

    static int[] join(int[] a, int[] b) {
        int[] both = Arrays.copyOf(a, a.length + b.length);
        System.arraycopy(b, 0, both, a.length, b.length);
        return both;
    }

    /** The call answers what is due, and all that the array answers later is as if without it. */
    void refused(String call, int due, ToIntFunction<ReshapeArray> made) {
        ReshapeArray x = make();
        Due.due(this + ": " + call, made.applyAsInt(x), due);
        unchanged(call, x);
        ReshapeArray y = make();
        made.applyAsInt(y);
        Due.due(this + ": blocks changed after " + call, changedBlocks(y), 0);
    }

    // Counted against what is due: if the story itself makes the same refused call, as it does with
    // mount and scrub, both arrays would show the same damage.
    private int changedBlocks(ReshapeArray x) {
        x.crash();
        x.mount();
        int changed = 0;
        for (int b = 0; b < size(); b++) {
            changed += x.read(b) == held(b) ? 0 : 1;
        }
        return changed;
    }

    void unchanged(String call, ReshapeArray x) {
        if (untouched == null) {
            untouched = story(make());
        }
        int other = Arrays.mismatch(story(x), untouched);
        Due.due(this + ": first changed answer after " + call, other, -1);
    }

    /** The state's answers and every block; reads are made while up alone. */
    void stands(String when, ReshapeArray x) {
        stateStands(when, x, isUp() ? 1 : 0, failed);
        if (isUp()) {
            holds(when, x);
        }
    }

    void stateStands(String when, ReshapeArray x, int up, int nowFailed) {
        String what = this + ": " + when + ": ";
        Due.due(what + "up()", x.up(), up);
        Due.due(what + "size()", x.size(), size());
        Due.due(what + "members()", x.members(), members());
        Due.due(what + "failed()", x.failed(), nowFailed);
        Due.due(what + "growth()", x.growth(), growth());
        Due.due(what + "groups()", x.groups(), moved());
    }

    void holds(String when, ReshapeArray x) {
        holdsBut(when, x, 0, 0);
    }

    /** Every block but those from 'first' on, 'count' of them, holds what it held. */
    void holdsBut(String when, ReshapeArray x, int first, int count) {
        for (int b = 0; b < size(); b++) {
            if (b < first || b >= first + count) {
                Due.due(this + ": " + when + ": read(" + b + ")", x.read(b), held(b));
            }
        }
    }

    /** What an array answers from here to the end of its growth and beyond: some 160 calls. */
    private static int[] story(ReshapeArray x) {
        List<Integer> told = new ArrayList<>();
        tellState(told, x);
        told.add(x.mount());
        tellState(told, x);
        // Another power loss brings out what would come back only when the array is mounted.
        told.add(x.crash());
        told.add(x.mount());
        tellBlocks(told, x);
        told.add(x.replace());
        tellState(told, x);
        told.add(x.begin());
        for (int i = 0; i < 7; i++) {
            told.add(x.step());
        }
        tellState(told, x);
        for (int m = 0; m < 5; m++) {
            told.add(x.fail(m));
            told.add(x.sum());
            told.add(x.replace());
        }
        tellBlocks(told, x);
        return told.stream().mapToInt(Integer::intValue).toArray();
    }

    private static void tellState(List<Integer> told, ReshapeArray x) {
        told.addAll(List.of(x.up(), x.size(), x.members(), x.failed()));
        told.addAll(List.of(x.growth(), x.groups(), x.sum(), x.scrub()));
    }

    private static void tellBlocks(List<Integer> told, ReshapeArray x) {
        for (int b = -1; b <= 48; b++) {
            told.add(x.read(b));
        }
    }

    @Override
    public String toString() {
        return "[groups " + groups + ", failed " + failed + ", " + loss + " " + point
            + (mounted ? ", mounted" : "") + "]";
    }
}
