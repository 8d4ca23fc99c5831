/** Each promise of the document by its number: ordinary calls, edges, wrong inputs, their order. */
final class PromisesTest {
    private static final int LEAST = Integer.MIN_VALUE;
    private static final int MOST = Integer.MAX_VALUE;

    private PromisesTest() {
    }

    public static void main(String[] args) {
        promise1NewObject();
        promise2Up();
        promise3Size();
        promise4Members();
        promise5Failed();
        promise6Growth();
        promise7Groups();
        promise8Read();
        promise9Sum();
        promise10Write();
        promise11Fill();
        promise12WriteCrash();
        promise13Begin();
        promise14Step();
        promise15StepCrash();
        promise16Crash();
        promise17Mount();
        promise18Fail();
        promise19Replace();
        promise20Scrub();
        Due.finish();
    }

    /** An array on which growth is begun and so many groups are moved; block b holds 10 + b. */
    private static ReshapeArray grown(int groups) {
        ReshapeArray x = new ReshapeArray();
        x.fill(0, 24, 10, 1);
        x.begin();
        for (int i = 0; i < groups; i++) {
            x.step();
        }
        return x;
    }

    private static void state(String what, ReshapeArray x, int up, int members, int failed,
            int groups) {
        Due.due(what + ": up()", x.up(), up);
        Due.due(what + ": size()", x.size(), groups == 6 ? 48 : 24);
        Due.due(what + ": members()", x.members(), members);
        Due.due(what + ": failed()", x.failed(), failed);
        Due.due(what + ": growth()", x.growth(), members == 3 ? 0 : groups == 6 ? 2 : 1);
        Due.due(what + ": groups()", x.groups(), groups);
    }

    private static void filled(String what, ReshapeArray x, int first, int count, int value) {
        for (int i = 0; i < count; i++) {
            int b = first + i;
            Due.due(what + ": read(" + b + ")", x.read(b), value + i);
        }
    }

    private static void promise1NewObject() {
        ReshapeArray x = new ReshapeArray();
        state("1 new", x, 1, 3, -1, 0);
        for (int b = 0; b < 24; b++) {
            Due.due("1 new: read(" + b + ")", x.read(b), 0);
        }
        Due.due("1 new: sum()", x.sum(), 0);
        Due.due("1 new: scrub()", x.scrub(), 0);
        ReshapeArray other = new ReshapeArray();
        other.write(0, 5);
        other.crash();
        Due.due("1 two objects: up()", x.up(), 1);
        Due.due("1 two objects: read(0)", x.read(0), 0);
    }

    private static void promise2Up() {
        ReshapeArray x = new ReshapeArray();
        Due.due("2 up()", x.up(), 1);
        x.crash();
        Due.due("2 up() after crash", x.up(), 0);
        x.mount();
        Due.due("2 up() after mount", x.up(), 1);
        x.writeCrash(0, 1, 0);
        Due.due("2 up() after writeCrash", x.up(), 0);
        x.mount();
        x.begin();
        x.stepCrash(0);
        Due.due("2 up() after stepCrash", x.up(), 0);
        x.mount();
        x.fail(0);
        Due.due("2 up() after fail", x.up(), 1);
    }

    private static void promise3Size() {
        ReshapeArray x = grown(0);
        for (int i = 0; i < 5; i++) {
            Due.due("3 size() after " + i, x.size(), 24);
            x.step();
        }
        x.crash();
        Due.due("3 size() while down, after 5", x.size(), 24);
        x.mount();
        x.step();
        Due.due("3 size() after 6", x.size(), 48);
        x.crash();
        Due.due("3 size() while down, after 6", x.size(), 48);
    }

    private static void promise4Members() {
        ReshapeArray x = new ReshapeArray();
        x.crash();
        Due.due("4 members() while down", x.members(), 3);
        x.mount();
        x.begin();
        Due.due("4 members() after begin", x.members(), 5);
        x.crash();
        Due.due("4 members() while down after begin", x.members(), 5);
        Due.due("4 members() after growth", grown(6).members(), 5);
    }

    private static void promise5Failed() {
        for (int m = 0; m < 5; m++) {
            ReshapeArray x = grown(2);
            x.fail(m);
            Due.due("5 failed()", x.failed(), m);
            x.crash();
            Due.due("5 failed() while down", x.failed(), m);
            x.mount();
            Due.due("5 failed() after mount", x.failed(), m);
            x.replace();
            Due.due("5 failed() after replace", x.failed(), -1);
        }
    }

    private static void promise6Growth() {
        ReshapeArray x = new ReshapeArray();
        x.crash();
        Due.due("6 growth() while down", x.growth(), 0);
        x.mount();
        x.begin();
        for (int i = 0; i < 6; i++) {
            Due.due("6 growth() after " + i, x.growth(), 1);
            x.step();
        }
        Due.due("6 growth() after 6", x.growth(), 2);
        x.crash();
        Due.due("6 growth() while down, after 6", x.growth(), 2);
    }

    private static void promise7Groups() {
        ReshapeArray x = new ReshapeArray();
        Due.due("7 groups() before begin", x.groups(), 0);
        x.begin();
        for (int i = 0; i <= 6; i++) {
            Due.due("7 groups() after " + i, x.groups(), i);
            x.crash();
            Due.due("7 groups() while down, after " + i, x.groups(), i);
            x.mount();
            x.step();
        }
        Due.due("7 groups() after one step too many", x.groups(), 6);
    }

    private static void promise8Read() {
        ReshapeArray x = grown(0);
        Due.due("8 read(0)", x.read(0), 10);
        Due.due("8 read(23)", x.read(23), 33);
        int[] outside = {-1, 24, 47, 48, LEAST, MOST};
        for (int b : outside) {
            Due.due("8 read(" + b + ")", x.read(b), 0);
        }
        x.crash();
        Due.due("8 read(0) while down", x.read(0), 0);
        ReshapeArray wide = grown(6);
        filled("8 grown", wide, 0, 24, 10);
        wide.write(24, 7);
        wide.write(47, 9);
        Due.due("8 grown: read(24)", wide.read(24), 7);
        Due.due("8 grown: read(47)", wide.read(47), 9);
        Due.due("8 grown: read(48)", wide.read(48), 0);
        Due.due("8 grown: read(-1)", wide.read(-1), 0);
        for (int m = 0; m < 5; m++) {
            wide.fail(m);
            filled("8 without member " + m, wide, 0, 24, 10);
            wide.replace();
        }
    }

    private static void promise9Sum() {
        ReshapeArray x = grown(3);
        Due.due("9 sum()", x.sum(), 516);
        x.crash();
        Due.due("9 sum() while down", x.sum(), 0);
        x.mount();
        x.fill(0, 24, 0, 0);
        x.write(0, MOST);
        x.write(23, 2);
        Due.due("9 sum() wraps", x.sum(), LEAST + 1);
        x.fail(1);
        Due.due("9 sum() without a member", x.sum(), LEAST + 1);
        ReshapeArray wide = grown(6);
        wide.write(47, 1000);
        Due.due("9 sum() of 48", wide.sum(), 1516);
    }

    private static void promise10Write() {
        ReshapeArray x = grown(0);
        int[] values = {1, -1, 0, LEAST, MOST};
        for (int value : values) {
            Due.due("10 write(0, ..)", x.write(0, value), 0);
            Due.due("10 read(0)", x.read(0), value);
            Due.due("10 write(23, ..)", x.write(23, value), 0);
            Due.due("10 read(23)", x.read(23), value);
        }
        int[] outside = {-1, 24, 48, LEAST, MOST};
        int sum = x.sum();
        for (int b : outside) {
            Due.due("10 write(" + b + ", 5)", x.write(b, 5), -2);
        }
        Due.due("10 sum() after refused writes", x.sum(), sum);
        x.crash();
        Due.due("10 write while down", x.write(1, 5), -1);
        Due.due("10 write outside, while down", x.write(-1, 5), -1);
        x.mount();
        Due.due("10 read(1) after a refused write", x.read(1), 11);
        ReshapeArray wide = grown(6);
        Due.due("10 grown: write(47, 5)", wide.write(47, 5), 0);
        Due.due("10 grown: write(48, 5)", wide.write(48, 5), -2);
        for (int m = 0; m < 5; m++) {
            ReshapeArray lame = grown(6);
            lame.fail(m);
            for (int b = 0; b < 48; b++) {
                lame.write(b, 100 * m + b);
            }
            filled("10 written without member " + m, lame, 0, 48, 100 * m);
            lame.replace();
            filled("10 replaced member " + m, lame, 0, 48, 100 * m);
        }
    }

    private static void promise11Fill() {
        ReshapeArray x = new ReshapeArray();
        Due.due("11 fill(0, 24, 10, 1)", x.fill(0, 24, 10, 1), 0);
        filled("11 filled", x, 0, 24, 10);
        Due.due("11 fill(23, 1, 5, 99)", x.fill(23, 1, 5, 99), 0);
        Due.due("11 read(23)", x.read(23), 5);
        Due.due("11 read(22)", x.read(22), 32);
        Due.due("11 fill(2, 3, MOST, 2)", x.fill(2, 3, MOST, 2), 0);
        Due.due("11 read(1)", x.read(1), 11);
        Due.due("11 read(2)", x.read(2), MOST);
        Due.due("11 read(3)", x.read(3), LEAST + 1);
        Due.due("11 read(4)", x.read(4), LEAST + 3);
        Due.due("11 read(5)", x.read(5), 15);
        int sum = x.sum();
        int[] counts = {0, -1, 25, LEAST, MOST};
        for (int count : counts) {
            Due.due("11 fill(0, " + count + ", ..)", x.fill(0, count, 1, 1), -2);
            Due.due("11 fill(-1, " + count + ", ..)", x.fill(-1, count, 1, 1), -2);
        }
        Due.due("11 fill(-1, 1, ..)", x.fill(-1, 1, 1, 1), -3);
        Due.due("11 fill(1, 24, ..)", x.fill(1, 24, 1, 1), -3);
        Due.due("11 fill(24, 1, ..)", x.fill(24, 1, 1, 1), -3);
        Due.due("11 fill(LEAST, 24, ..)", x.fill(LEAST, 24, 1, 1), -3);
        Due.due("11 fill(MOST, 24, ..)", x.fill(MOST, 24, 1, 1), -3);
        Due.due("11 sum() after refused fills", x.sum(), sum);
        x.crash();
        Due.due("11 fill while down", x.fill(0, 1, 1, 1), -1);
        Due.due("11 fill of none while down", x.fill(0, 0, 1, 1), -1);
        ReshapeArray wide = grown(6);
        Due.due("11 grown: fill(24, 24, 1, 1)", wide.fill(24, 24, 1, 1), 0);
        filled("11 grown", wide, 24, 24, 1);
        Due.due("11 grown: fill(25, 24, ..)", wide.fill(25, 24, 1, 1), -3);
        Due.due("11 grown: fill(0, 25, ..)", wide.fill(0, 25, 1, 1), -2);
        wide.fail(3);
        Due.due("11 without member 3: fill(12, 24, 70, 1)", wide.fill(12, 24, 70, 1), 0);
        filled("11 without member 3", wide, 12, 24, 70);
    }

    private static void promise12WriteCrash() {
        for (int point = 0; point <= 3; point++) {
            ReshapeArray x = grown(3);
            Due.due("12 writeCrash, point " + point, x.writeCrash(11, 999, point), 0);
            state("12 after it", x, 0, 5, -1, 3);
            x.mount();
            Due.due("12 read(11), point " + point, x.read(11), point == 0 ? 21 : 999);
            Due.due("12 read(10), point " + point, x.read(10), 20);
            Due.due("12 read(12), point " + point, x.read(12), 22);
            Due.due("12 scrub(), point " + point, x.scrub(), 0);
        }
        ReshapeArray x = grown(1);
        Due.due("12 writeCrash(-1, ..)", x.writeCrash(-1, 1, 0), -2);
        Due.due("12 writeCrash(24, ..)", x.writeCrash(24, 1, 0), -2);
        Due.due("12 block before point", x.writeCrash(24, 1, 4), -2);
        Due.due("12 point -1", x.writeCrash(0, 1, -1), -3);
        Due.due("12 point 4", x.writeCrash(0, 1, 4), -3);
        Due.due("12 point LEAST", x.writeCrash(0, 1, LEAST), -3);
        Due.due("12 point MOST", x.writeCrash(0, 1, MOST), -3);
        x.fail(1);
        Due.due("12 member failed", x.writeCrash(0, 1, 3), -4);
        Due.due("12 point before member", x.writeCrash(0, 1, 4), -3);
        Due.due("12 block before member", x.writeCrash(24, 1, 4), -2);
        state("12 after refusals", x, 1, 5, 1, 1);
        filled("12 after refusals", x, 0, 24, 10);
        x.crash();
        Due.due("12 while down", x.writeCrash(24, 1, 4), -1);
        ReshapeArray wide = grown(6);
        Due.due("12 grown: block 48", wide.writeCrash(48, 1, 1), -2);
        Due.due("12 grown: block 47", wide.writeCrash(47, 1, 1), 0);
    }

    private static void promise13Begin() {
        ReshapeArray x = new ReshapeArray();
        x.fill(0, 24, 10, 1);
        x.crash();
        Due.due("13 begin() while down", x.begin(), -1);
        x.mount();
        x.fail(2);
        Due.due("13 begin() with a failed member", x.begin(), -3);
        state("13 after refusals", x, 1, 3, 2, 0);
        x.replace();
        Due.due("13 begin()", x.begin(), 0);
        state("13 after begin", x, 1, 5, -1, 0);
        filled("13 after begin", x, 0, 24, 10);
        Due.due("13 begin() again", x.begin(), -2);
        x.fail(2);
        Due.due("13 begun before failed", x.begin(), -2);
        x.crash();
        Due.due("13 down before begun", x.begin(), -1);
        Due.due("13 begin() after growth", grown(6).begin(), -2);
    }

    private static void promise14Step() {
        ReshapeArray fresh = new ReshapeArray();
        Due.due("14 step() before begin", fresh.step(), -2);
        fresh.crash();
        Due.due("14 step() while down", fresh.step(), -1);
        for (int m = -1; m < 5; m++) {
            ReshapeArray x = grown(0);
            x.fail(m);
            for (int i = 1; i <= 6; i++) {
                Due.due("14 step() " + i + " without member " + m, x.step(), i);
                state("14 after step " + i, x, 1, 5, m, i);
                filled("14 after step " + i, x, 0, 24, 10);
            }
            for (int b = 24; b < 48; b++) {
                Due.due("14 new block " + b, x.read(b), 0);
            }
            Due.due("14 step() after growth", x.step(), -2);
            state("14 after growth", x, 1, 5, m, 6);
        }
    }

    private static void promise15StepCrash() {
        for (int before = 0; before < 6; before++) {
            for (int point = 0; point <= 4; point++) {
                ReshapeArray x = grown(before);
                int after = point == 4 ? before + 1 : before;
                Due.due("15 stepCrash(" + point + ")", x.stepCrash(point), after);
                state("15 after point " + point, x, 0, 5, -1, after);
                x.mount();
                state("15 mounted after point " + point, x, 1, 5, -1, after);
                Due.due("15 scrub() after point " + point, x.scrub(), 0);
                filled("15 after point " + point, x, 0, 24, 10);
                Due.due("15 sum() after point " + point, x.sum(), 516);
            }
        }
        ReshapeArray x = new ReshapeArray();
        Due.due("15 before begin", x.stepCrash(0), -2);
        Due.due("15 begun before point", x.stepCrash(5), -2);
        x.begin();
        x.fail(4);
        Due.due("15 point -1", x.stepCrash(-1), -3);
        Due.due("15 point 5", x.stepCrash(5), -3);
        Due.due("15 point LEAST", x.stepCrash(LEAST), -3);
        Due.due("15 point MOST", x.stepCrash(MOST), -3);
        state("15 after refusals", x, 1, 5, 4, 0);
        Due.due("15 with a failed member", x.stepCrash(4), 1);
        Due.due("15 while down", x.stepCrash(5), -1);
        Due.due("15 after growth", grown(6).stepCrash(4), -2);
    }

    private static void promise16Crash() {
        ReshapeArray x = grown(2);
        x.fail(0);
        Due.due("16 crash()", x.crash(), 0);
        state("16 after crash", x, 0, 5, 0, 2);
        Due.due("16 crash() again", x.crash(), -1);
        Due.due("16 up() after crash again", x.up(), 0);
        x.mount();
        filled("16 after mount", x, 0, 24, 10);
    }

    private static void promise17Mount() {
        ReshapeArray x = grown(4);
        Due.due("17 mount() while up", x.mount(), -1);
        x.crash();
        Due.due("17 mount()", x.mount(), 0);
        state("17 after mount", x, 1, 5, -1, 4);
        Due.due("17 mount() again", x.mount(), -1);
        // What an earlier mount has settled must not be settled again over newer writes.
        x.writeCrash(3, 50, 2);
        x.mount();
        x.write(3, 60);
        x.crash();
        x.mount();
        Due.due("17 read(3)", x.read(3), 60);
        x.stepCrash(2);
        x.mount();
        x.write(16, 70);
        x.crash();
        x.mount();
        Due.due("17 read(16)", x.read(16), 70);
        x.step();
        x.stepCrash(4);
        x.mount();
        x.write(47, 80);
        x.crash();
        x.mount();
        Due.due("17 read(47)", x.read(47), 80);
    }

    private static void promise18Fail() {
        ReshapeArray x = new ReshapeArray();
        x.fill(0, 24, 10, 1);
        int[] outside = {-1, 3, 4, 5, LEAST, MOST};
        for (int m : outside) {
            Due.due("18 fail(" + m + ") of 3", x.fail(m), -2);
        }
        Due.due("18 failed() after refusals", x.failed(), -1);
        Due.due("18 fail(2)", x.fail(2), 0);
        Due.due("18 fail(2) again", x.fail(2), -3);
        Due.due("18 fail(0) besides", x.fail(0), -3);
        Due.due("18 number before failed", x.fail(3), -2);
        state("18 after fail", x, 1, 3, 2, 0);
        filled("18 without member 2", x, 0, 24, 10);
        x.crash();
        Due.due("18 fail() while down", x.fail(9), -1);
        ReshapeArray wide = grown(0);
        Due.due("18 fail(5) of 5", wide.fail(5), -2);
        Due.due("18 fail(-1) of 5", wide.fail(-1), -2);
        Due.due("18 fail(4) of 5", wide.fail(4), 0);
    }

    private static void promise19Replace() {
        ReshapeArray x = new ReshapeArray();
        x.fill(0, 24, 10, 1);
        Due.due("19 replace() of none", x.replace(), -2);
        x.crash();
        Due.due("19 replace() while down", x.replace(), -1);
        x.mount();
        // One after the other fails: each must be whole again before the next one goes.
        for (int m = 0; m < 3; m++) {
            x.fail(m);
            x.write(m, 10 + m);
            Due.due("19 replace()", x.replace(), m);
            state("19 after replace", x, 1, 3, -1, 0);
            Due.due("19 scrub()", x.scrub(), 0);
            filled("19 after replace of " + m, x, 0, 24, 10);
        }
        Due.due("19 replace() again", x.replace(), -2);
        for (int groups = 0; groups <= 6; groups++) {
            ReshapeArray y = grown(groups);
            for (int m = 4; m >= 0; m--) {
                y.fail(m);
                Due.due("19 replace() after " + groups, y.replace(), m);
                Due.due("19 scrub() after " + groups, y.scrub(), 0);
                filled("19 after " + groups, y, 0, 24, 10);
            }
        }
        ReshapeArray down = grown(2);
        down.fail(3);
        down.crash();
        Due.due("19 replace() of a failed one while down", down.replace(), -1);
        Due.due("19 failed() after a refused replace", down.failed(), 3);
    }

    private static void promise20Scrub() {
        for (int groups = 0; groups <= 6; groups++) {
            ReshapeArray x = grown(groups);
            Due.due("20 scrub() after " + groups, x.scrub(), 0);
            x.fail(1);
            Due.due("20 scrub() with a failed member", x.scrub(), -2);
            x.crash();
            Due.due("20 down before failed", x.scrub(), -1);
            x.mount();
            x.fill(0, 24, 77, -5);
            x.replace();
            Due.due("20 scrub() after replace", x.scrub(), 0);
            x.crash();
            Due.due("20 scrub() while down", x.scrub(), -1);
        }
    }
}
