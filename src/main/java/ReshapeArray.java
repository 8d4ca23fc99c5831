/**
 * A parity-protected disk array that grows from three members to five while it is in use, and
 * survives power loss and the failure of one member.
 *
 * A stripe is one row of cells, one cell on each member, that together come to 0 under exclusive
 * or: all but one hold blocks, the last one the parity. Growth turns two stripes over three
 * members into one stripe over five, group by group, from the front.
 */
public final class ReshapeArray {
    private static final int OLD_MEMBERS = 3;
    private static final int NEW_MEMBERS = 5;
    private static final int OLD_DATA = 2;
    private static final int NEW_DATA = 4;
    private static final int OLD_BLOCKS = 24;
    private static final int NEW_BLOCKS = 48;
    private static final int ROWS = 12;
    private static final int CELLS = 60;
    private static final int GROUPS = 6;
    private static final int GROUP_BLOCKS = 4;
    private static final int GROUP_OLD_ROWS = 2;
    private static final int LARGEST_FILL = 24;
    private static final int NO_MEMBER = -1;

    private static final int IDLE = 0;
    private static final int WRITING = 1;
    private static final int MOVING = 2;
    private static final int MOVED = 3;

    private static final int LAST_WRITE_POINT = 3;
    private static final int WHOLE_WRITE = 4;
    private static final int LAST_STEP_POINT = 4;
    private static final int WHOLE_STEP = 5;
    private static final int TORN_CELLS = 3;

    private final int[] cells = new int[CELLS];

    private boolean running;
    private boolean begun;
    private int moved;
    private int failedMember;

    // The journal stands apart from the members: neither power loss nor a failure takes it away.
    private final int[] savedGroup = new int[GROUP_BLOCKS];
    private int journal;
    private int loggedBlock;
    private int loggedValue;
    private int loggedParity;

    public ReshapeArray() {
        running = true;
        begun = false;
        moved = 0;
        failedMember = NO_MEMBER;
        journal = IDLE;
    }

    public int up() {
        return running ? 1 : 0;
    }

    public int size() {
        return isComplete() ? NEW_BLOCKS : OLD_BLOCKS;
    }

    public int members() {
        return begun ? NEW_MEMBERS : OLD_MEMBERS;
    }

    public int failed() {
        return failedMember;
    }

    public int growth() {
        if (!begun) {
            return 0;
        }
        return isComplete() ? 2 : 1;
    }

    public int groups() {
        return moved;
    }

    public int read(int b) {
        if (!running || !isBlock(b)) {
            return 0;
        }
        return recallBlock(b);
    }

    public int sum() {
        if (!running) {
            return 0;
        }
        int total = 0;
        int blocks = size();
        for (int b = 0; b < blocks; b++) {
            total += recallBlock(b);
        }
        return total;
    }

    public int write(int b, int value) {
        if (!running) {
            return -1;
        }
        if (!isBlock(b)) {
            return -2;
        }
        writeUntil(b, value, WHOLE_WRITE);
        return 0;
    }

    public int fill(int b, int count, int value, int step) {
        if (!running) {
            return -1;
        }
        if (count < 1 || count > LARGEST_FILL) {
            return -2;
        }
        if (b < 0 || b > size() - count) {
            return -3;
        }
        int next = value;
        for (int i = 0; i < count; i++) {
            writeUntil(b + i, next, WHOLE_WRITE);
            next += step;
        }
        return 0;
    }

    public int writeCrash(int b, int value, int point) {
        if (!running) {
            return -1;
        }
        if (!isBlock(b)) {
            return -2;
        }
        if (point < 0 || point > LAST_WRITE_POINT) {
            return -3;
        }
        if (failedMember != NO_MEMBER) {
            return -4;
        }
        writeUntil(b, value, point);
        running = false;
        return 0;
    }

    public int begin() {
        if (!running) {
            return -1;
        }
        if (begun) {
            return -2;
        }
        if (failedMember != NO_MEMBER) {
            return -3;
        }
        begun = true;
        return 0;
    }

    public int step() {
        if (!running) {
            return -1;
        }
        if (!isGrowing()) {
            return -2;
        }
        moveUntil(WHOLE_STEP);
        return moved;
    }

    public int stepCrash(int point) {
        if (!running) {
            return -1;
        }
        if (!isGrowing()) {
            return -2;
        }
        if (point < 0 || point > LAST_STEP_POINT) {
            return -3;
        }
        moveUntil(point);
        running = false;
        return moved;
    }

    public int crash() {
        if (!running) {
            return -1;
        }
        running = false;
        return 0;
    }

    public int mount() {
        if (running) {
            return -1;
        }
        recover();
        running = true;
        return 0;
    }

    public int fail(int m) {
        if (!running) {
            return -1;
        }
        if (m < 0 || m >= members()) {
            return -2;
        }
        if (failedMember != NO_MEMBER) {
            return -3;
        }
        for (int row = 0; row < ROWS; row++) {
            putCell(m, row, 0);
        }
        failedMember = m;
        return 0;
    }

    public int replace() {
        if (!running) {
            return -1;
        }
        if (failedMember == NO_MEMBER) {
            return -2;
        }
        int replaced = failedMember;
        failedMember = NO_MEMBER;
        for (int row = 0; row < ROWS; row++) {
            rebuildCell(replaced, row);
        }
        return replaced;
    }

    public int scrub() {
        if (!running) {
            return -1;
        }
        if (failedMember != NO_MEMBER) {
            return -2;
        }
        int unfit = 0;
        for (int row = 0; row < ROWS; row++) {
            int width = widthOfRow(row);
            if (combineOthers(NO_MEMBER, row, width) != 0) {
                unfit++;
            }
        }
        return unfit;
    }

    private boolean isComplete() {
        return moved == GROUPS;
    }

    private boolean isGrowing() {
        return begun && !isComplete();
    }

    private boolean isBlock(int b) {
        return b >= 0 && b < size();
    }

    // Asks for completion itself, since the calls that lead here are six deep already.
    private boolean isMoved(int b) {
        return moved == GROUPS || b < moved * GROUP_BLOCKS;
    }

    private int widthOfBlock(int b) {
        return isMoved(b) ? NEW_MEMBERS : OLD_MEMBERS;
    }

    private int rowOfBlock(int b) {
        return isMoved(b) ? b / NEW_DATA : b / OLD_DATA;
    }

    private int memberOfBlock(int b) {
        if (isMoved(b)) {
            return memberAt(b / NEW_DATA, NEW_MEMBERS, b % NEW_DATA);
        }
        return memberAt(b / OLD_DATA, OLD_MEMBERS, b % OLD_DATA);
    }

    private int parityMemberOfBlock(int b) {
        if (isMoved(b)) {
            return memberAt(b / NEW_DATA, NEW_MEMBERS, NEW_DATA);
        }
        return memberAt(b / OLD_DATA, OLD_MEMBERS, OLD_DATA);
    }

    // A stripe's last position is its parity. It goes round from row to row, so that no member
    // carries the parity writes of all stripes.
    private int memberAt(int row, int width, int position) {
        int turned = row + position;
        return width == NEW_MEMBERS ? turned % NEW_MEMBERS : turned % OLD_MEMBERS;
    }

    // How many members the stripe in this row spans; 0 where growth has left the row unused.
    private int widthOfRow(int row) {
        if (isComplete() || row < moved) {
            return NEW_MEMBERS;
        }
        return row >= moved * GROUP_OLD_ROWS ? OLD_MEMBERS : 0;
    }

    private int cellAt(int member, int row) {
        return cells[member * ROWS + row];
    }

    // A failed member takes nothing up: what it should hold follows from the rest of the stripe.
    private void putCell(int member, int row, int value) {
        if (member != failedMember) {
            cells[member * ROWS + row] = value;
        }
    }

    private int combineOthers(int member, int row, int width) {
        int combined = 0;
        for (int m = 0; m < width; m++) {
            if (m != member) {
                combined ^= cellAt(m, row);
            }
        }
        return combined;
    }

    private int recallBlock(int b) {
        int row = rowOfBlock(b);
        int member = memberOfBlock(b);
        if (member != failedMember) {
            return cellAt(member, row);
        }
        int width = widthOfBlock(b);
        return combineOthers(member, row, width);
    }

    private void rebuildCell(int member, int row) {
        int width = widthOfRow(row);
        int value = member < width ? combineOthers(member, row, width) : 0;
        putCell(member, row, value);
    }

    // Power is lost at the point: 0 before the write is logged, 1 after that, 2 after the data,
    // 3 after the parity.
    private void writeUntil(int b, int value, int point) {
        if (point > 0) {
            logWrite(b, value);
        }
        if (point > 1) {
            putLoggedData();
        }
        if (point > 2) {
            putLoggedParity();
        }
        if (point > LAST_WRITE_POINT) {
            journal = IDLE;
        }
    }

    // The parity is logged as well: with the old data overwritten, the change is no longer known.
    private void logWrite(int b, int value) {
        int row = rowOfBlock(b);
        int parity = parityMemberOfBlock(b);
        int change = recallBlock(b) ^ value;
        loggedBlock = b;
        loggedValue = value;
        loggedParity = cellAt(parity, row) ^ change;
        journal = WRITING;
    }

    private void putLoggedData() {
        int row = rowOfBlock(loggedBlock);
        int member = memberOfBlock(loggedBlock);
        putCell(member, row, loggedValue);
    }

    private void putLoggedParity() {
        int row = rowOfBlock(loggedBlock);
        int parity = parityMemberOfBlock(loggedBlock);
        putCell(parity, row, loggedParity);
    }

    // Power is lost at the point: 0 before the group is saved, 1 after it, 2 amid the new stripe,
    // 3 after it, 4 when the group counts as moved but the rows it frees are not yet cleared.
    private void moveUntil(int point) {
        if (point > 0) {
            saveGroup();
        }
        if (point > 1) {
            int written = point == 2 ? TORN_CELLS : NEW_MEMBERS;
            layStripe(moved, NEW_MEMBERS, 0, written);
        }
        if (point > 3) {
            moved++;
            journal = MOVED;
        }
        if (point > LAST_STEP_POINT) {
            finishMove();
        }
    }

    // The first group's new stripe lies over its own old one, so the group is kept until it counts.
    private void saveGroup() {
        int first = moved * GROUP_BLOCKS;
        for (int i = 0; i < GROUP_BLOCKS; i++) {
            savedGroup[i] = recallBlock(first + i);
        }
        journal = MOVING;
    }

    // Writes a stripe of the saved blocks from 'first' on, stopping short after 'written' cells.
    private void layStripe(int row, int width, int first, int written) {
        int parityPosition = width - 1;
        int parity = 0;
        for (int i = 0; i < written; i++) {
            int value = parity;
            if (i < parityPosition) {
                value = savedGroup[first + i];
                parity ^= value;
            }
            int member = memberAt(row, width, i);
            putCell(member, row, value);
        }
    }

    private void undoMove() {
        int row = moved * GROUP_OLD_ROWS;
        layStripe(row, OLD_MEMBERS, 0, OLD_MEMBERS);
        layStripe(row + 1, OLD_MEMBERS, OLD_DATA, OLD_MEMBERS);
    }

    // The rows behind the moved blocks still hold old stripes, where the new blocks must hold 0.
    private void finishMove() {
        if (isComplete()) {
            for (int row = GROUPS; row < ROWS; row++) {
                clearRow(row);
            }
        }
        journal = IDLE;
    }

    private void clearRow(int row) {
        for (int m = 0; m < NEW_MEMBERS; m++) {
            putCell(m, row, 0);
        }
    }

    private void recover() {
        if (journal == WRITING) {
            putLoggedData();
            putLoggedParity();
        } else if (journal == MOVING) {
            undoMove();
        } else if (journal == MOVED) {
            finishMove();
        }
        journal = IDLE;
    }
}
