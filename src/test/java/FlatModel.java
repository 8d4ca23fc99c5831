/**
 * The document's words over a plain row of blocks: no members, no parity, no journal. It shares
 * nothing with the program but the answers that both must give.
 */
final class FlatModel {
    private final int[] block = new int[48];
    private boolean up = true;
    private boolean begun = false;
    private int groups = 0;
    private int failed = -1;

    int up() {
        return up ? 1 : 0;
    }

    int size() {
        return groups == 6 ? 48 : 24;
    }

    int members() {
        return begun ? 5 : 3;
    }

    int failed() {
        return failed;
    }

    int growth() {
        return !begun ? 0 : groups < 6 ? 1 : 2;
    }

    int groups() {
        return groups;
    }

    int read(int b) {
        return !up || b < 0 || b >= size() ? 0 : block[b];
    }

    int sum() {
        int total = 0;
        for (int b = 0; up && b < size(); b++) {
            total += block[b];
        }
        return total;
    }

    int write(int b, int value) {
        int answer = !up ? -1 : b < 0 || b >= size() ? -2 : 0;
        if (answer == 0) {
            block[b] = value;
        }
        return answer;
    }

    int fill(int b, int count, int value, int step) {
        int answer = !up ? -1 : count < 1 || count > 24 ? -2 : b < 0 || b > size() - count ? -3 : 0;
        for (int i = 0; answer == 0 && i < count; i++) {
            block[b + i] = value + i * step;
        }
        return answer;
    }

    int writeCrash(int b, int value, int point) {
        int answer = !up ? -1 : b < 0 || b >= size() ? -2 : point < 0 || point > 3 ? -3
            : failed != -1 ? -4 : 0;
        if (answer == 0) {
            block[b] = point == 0 ? block[b] : value;
            up = false;
        }
        return answer;
    }

    int begin() {
        int answer = !up ? -1 : begun ? -2 : failed != -1 ? -3 : 0;
        begun |= answer == 0;
        return answer;
    }

    int step() {
        int answer = !up ? -1 : growth() != 1 ? -2 : 0;
        return answer != 0 ? answer : ++groups;
    }

    int stepCrash(int point) {
        int answer = !up ? -1 : growth() != 1 ? -2 : point < 0 || point > 4 ? -3 : 0;
        if (answer != 0) {
            return answer;
        }
        up = false;
        groups += point == 4 ? 1 : 0;
        return groups;
    }

    int crash() {
        int answer = up ? 0 : -1;
        up = false;
        return answer;
    }

    int mount() {
        int answer = up ? -1 : 0;
        up = true;
        return answer;
    }

    int fail(int m) {
        int answer = !up ? -1 : m < 0 || m >= members() ? -2 : failed != -1 ? -3 : 0;
        failed = answer == 0 ? m : failed;
        return answer;
    }

    int replace() {
        int answer = !up ? -1 : failed == -1 ? -2 : failed;
        failed = answer < 0 ? failed : -1;
        return answer;
    }

    int scrub() {
        return !up ? -1 : failed != -1 ? -2 : 0;
    }
}
