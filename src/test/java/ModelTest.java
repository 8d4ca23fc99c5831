/** Long mixed runs, and every crash point with every member failed, beside the plain model. */
final class ModelTest {
    // With the calls before and after them, still fewer than the 512 that are promised.
    private static final int MIXED_CALLS = 440;
    private static long seed;

    private ModelTest() {
    }

    public static void main(String[] args) {
        for (int run = 0; run < 3000; run++) {
            mixedRun(run);
        }
        for (int group = 0; group < 6; group++) {
            for (int member = -1; member < 5; member++) {
                for (int point = 0; point <= 4; point++) {
                    crashedStep(group, member, point);
                }
                replacedAmidGrowth(group, member);
            }
        }
        for (int group = -1; group <= 6; group++) {
            for (int point = 0; point <= 3; point++) {
                crashedWrite(group, point);
            }
        }
        Due.finish();
    }

    // A fixed sequence, so that a failing run is the same run every time.
    private static int pick(int bound) {
        seed = seed * 6364136223846793005L + 1442695040888963407L;
        return (int) ((seed >>> 33) % bound);
    }

    private static int anyInt() {
        int kind = pick(8);
        if (kind == 0) {
            return Integer.MIN_VALUE;
        }
        if (kind == 1) {
            return Integer.MAX_VALUE;
        }
        return (pick(1 << 16) << 16) ^ pick(1 << 16);
    }

    private static int anyBlock(Pair x) {
        int kind = pick(40);
        if (kind == 0) {
            return Integer.MIN_VALUE;
        }
        if (kind == 1) {
            return Integer.MAX_VALUE;
        }
        return pick(x.size() + 4) - 2;
    }

    private static void mixedRun(int run) {
        seed = run;
        Pair x = new Pair("mixed run " + run);
        // How soon growth goes on differs from run to run, so that all its stages are lived in.
        int haste = 1 + pick(12);
        x.fill(0, 24, anyInt(), anyInt());
        for (int i = 0; i < MIXED_CALLS; i++) {
            mixedCall(x, haste);
        }
        x.mount();
        x.state();
        x.blocks();
    }

    private static void mixedCall(Pair x, int haste) {
        switch (pick(16)) {
            case 0 -> x.write(anyBlock(x), anyInt());
            case 1 -> x.fill(anyBlock(x), pick(27) - 1, anyInt(), anyInt());
            case 2 -> x.writeCrash(anyBlock(x), anyInt(), pick(6) - 1);
            case 3 -> x.crash();
            case 4, 5, 6 -> x.mount();
            case 7 -> x.fail(pick(x.members() + 2) - 1);
            case 8, 9 -> x.replace();
            case 10 -> x.scrub();
            case 11 -> x.sum();
            case 12 -> x.read(anyBlock(x));
            case 13 -> {
                if (pick(haste) == 0) {
                    x.begin();
                }
            }
            case 14 -> {
                if (pick(haste) == 0) {
                    x.step();
                }
            }
            default -> {
                if (pick(haste) == 0) {
                    x.stepCrash(pick(7) - 1);
                }
            }
        }
    }

    private static void grow(Pair x, int groups) {
        x.fill(0, 24, 1_234_567, 987_654_321);
        x.begin();
        for (int i = 0; i < groups; i++) {
            x.step();
        }
    }

    /** One step after 'group' others, with power lost at 'point' and 'member' failed (-1: none). */
    private static void crashedStep(int group, int member, int point) {
        Pair x = new Pair("step " + group + ", member " + member + ", point " + point);
        grow(x, group);
        if (member >= 0) {
            x.fail(member);
        }
        x.stepCrash(point);
        x.state();
        x.read(0);
        x.mount();
        x.state();
        x.blocks();
        x.replace();
        x.state();
        for (int m = 0; m < 5; m++) {
            x.fail(m);
            x.blocks();
            x.replace();
        }
        x.state();
    }

    private static void replacedAmidGrowth(int group, int member) {
        Pair x = new Pair("replaced after " + group + ", member " + member);
        grow(x, group);
        x.fail(member);
        for (int b = 0; b < 24; b += 5) {
            x.write(b, -b - 1);
        }
        x.step();
        x.blocks();
        x.replace();
        x.state();
        x.blocks();
        for (int i = group + 1; i < 6; i++) {
            x.step();
        }
        x.state();
        x.blocks();
        x.fail(0);
        x.fill(24, 24, 5, 7);
        x.blocks();
        x.replace();
        x.state();
        x.blocks();
    }

    /** Power lost while every block in turn is written; 'group' -1 is before growth is begun. */
    private static void crashedWrite(int group, int point) {
        int blocks = group == 6 ? 48 : 24;
        for (int b = 0; b < blocks; b++) {
            Pair x = new Pair("write of " + b + " after " + group + ", point " + point);
            if (group >= 0) {
                grow(x, group);
            } else {
                x.fill(0, 24, 3, 1_000_003);
            }
            x.writeCrash(b, ~b, point);
            x.state();
            x.read(b);
            x.mount();
            x.state();
            x.blocks();
            for (int m = 0; m < x.members(); m++) {
                x.fail(m);
                x.blocks();
                x.replace();
            }
            x.state();
        }
    }
}
