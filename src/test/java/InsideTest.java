import java.lang.reflect.Field;

/**
 * What no answer shows: that the blocks stand on the members alone, so that a failed member's
 * cells are really gone, and that scrub really looks at the stripes.
 */
final class InsideTest {
    private static final int ROWS = 12;

    private InsideTest() {
    }

    public static void main(String[] args) throws ReflectiveOperationException {
        failedMemberIsLost();
        failedMemberTakesNothingUp();
        newMemberHoldsWhatTheOldOneDid();
        scrubSeesEveryDamagedStripe();
        Due.finish();
    }

    private static int[] cells(ReshapeArray x) throws ReflectiveOperationException {
        Field field = ReshapeArray.class.getDeclaredField("cells");
        field.setAccessible(true);
        return (int[]) field.get(x);
    }

    private static ReshapeArray grown(int groups) {
        ReshapeArray x = new ReshapeArray();
        x.fill(0, 24, 11, 13);
        if (groups >= 0) {
            x.begin();
        }
        for (int i = 0; i < groups; i++) {
            x.step();
        }
        return x;
    }

    private static void allZero(String what, ReshapeArray x, int member)
            throws ReflectiveOperationException {
        for (int row = 0; row < ROWS; row++) {
            Due.due(what + ", member " + member + ", row " + row, cells(x)[member * ROWS + row], 0);
        }
    }

    private static void failedMemberIsLost() throws ReflectiveOperationException {
        for (int m = 0; m < 5; m++) {
            ReshapeArray x = grown(6);
            x.fill(24, 24, 1, 1);
            x.fail(m);
            allZero("after fail", x, m);
        }
    }

    private static void failedMemberTakesNothingUp() throws ReflectiveOperationException {
        for (int m = 0; m < 5; m++) {
            ReshapeArray x = grown(0);
            x.fail(m);
            x.fill(0, 24, 5, 3);
            x.stepCrash(3);
            x.mount();
            for (int i = 0; i < 6; i++) {
                x.step();
            }
            allZero("written while failed", x, m);
        }
    }

    private static void newMemberHoldsWhatTheOldOneDid() throws ReflectiveOperationException {
        for (int groups = 0; groups <= 6; groups++) {
            for (int m = 0; m < 5; m++) {
                ReshapeArray x = grown(groups);
                int[] before = cells(x).clone();
                x.fail(m);
                x.replace();
                for (int row = 0; row < ROWS; row++) {
                    // Rows that growth has left unused hold nothing that matters.
                    boolean narrow = row >= 2 * groups;
                    boolean used = groups == 6 || row < groups || narrow && m < 3;
                    Due.due("after " + groups + " groups, member " + m + ", row " + row,
                        cells(x)[m * ROWS + row], used ? before[m * ROWS + row] : 0);
                }
            }
        }
    }

    private static void scrubSeesEveryDamagedStripe() throws ReflectiveOperationException {
        for (int groups = -1; groups <= 6; groups++) {
            ReshapeArray x = grown(groups);
            for (int row = 0; row < ROWS; row++) {
                cells(x)[row] ^= 1;
            }
            int inUse = groups == 6 ? ROWS : groups < 0 ? ROWS : ROWS - groups;
            Due.due("scrub of damaged stripes after " + groups, x.scrub(), inUse);
        }
    }
}
