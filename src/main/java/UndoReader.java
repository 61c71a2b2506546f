/**
 * Eight rows that four sessions change in place, while readers see them as they were at an earlier
 * commit, as long as the changes made since are remembered.
 */
public final class UndoReader {
    public static final int OK = 0;
    public static final int BAD = -1;
    public static final int LOCKED = -2;
    public static final int FULL = -3;
    public static final int NONE = -4;
    public static final int TOO_OLD = -2000000000;

    private static final int ROWS = 8;
    private static final int SESSIONS = 4;
    private static final int CAPACITY = 24;

    // Commits are numbered from 1, so 0 is free to mark a change whose transaction is still open.
    private static final int OPEN = 0;

    private final int[] value = new int[ROWS];

    // The number of the last change of each row that was forgotten. A row's changes are forgotten in
    // the order of their numbers, so the last number is the greatest; 0 is above no moment.
    private final int[] forgottenNumber = new int[ROWS];

    // The remembered changes, oldest first. Changes of open transactions are never forgotten, so
    // locks and transactions need no record of their own: they are read off these.
    private final int[] changedRow = new int[CAPACITY];
    private final int[] valueBefore = new int[CAPACITY];
    private final int[] changedBy = new int[CAPACITY];
    private final int[] commitNumber = new int[CAPACITY];
    private int rememberedCount = 0;

    private int lastCommit = 0;

    public UndoReader() {
    }

    public int change(int x, int r, int v) {
        if (!isSession(x) || !isRow(r)) {
            return BAD;
        }
        int owner = holder(r);
        if (owner != NONE && owner != x) {
            return LOCKED;
        }
        if (!makeRoom()) {
            return FULL;
        }
        remember(x, r);
        value[r] = v;
        return OK;
    }

    public int commit(int x) {
        if (changes(x) == 0) {
            return NONE;
        }
        lastCommit++;
        for (int i = 0; i < rememberedCount; i++) {
            if (isOpenChangeOf(i, x)) {
                commitNumber[i] = lastCommit;
            }
        }
        return lastCommit;
    }

    public int rollback(int x) {
        if (changes(x) == 0) {
            return NONE;
        }
        restoreRows(x);
        dropOpenChanges(x);
        return OK;
    }

    public int clock() {
        return lastCommit;
    }

    public int read(int x, int r, int s) {
        if (!isSession(x) || !isRow(r) || !isMoment(s)) {
            return BAD;
        }
        if (holder(r) == x) {
            return value[r];
        }
        if (isTooOld(r, s)) {
            return TOO_OLD;
        }
        return committedValue(r, s);
    }

    public int raw(int r) {
        return isRow(r) ? value[r] : 0;
    }

    public int holder(int r) {
        for (int i = 0; i < rememberedCount; i++) {
            if (changedRow[i] == r && commitNumber[i] == OPEN) {
                return changedBy[i];
            }
        }
        return NONE;
    }

    public int locks(int x) {
        int rows = 0;
        for (int i = 0; i < rememberedCount; i++) {
            if (isOpenChangeOf(i, x)) {
                rows |= 1 << changedRow[i];
            }
        }
        return rows;
    }

    public int remembered() {
        return rememberedCount;
    }

    public int changes(int x) {
        int made = 0;
        for (int i = 0; i < rememberedCount; i++) {
            if (isOpenChangeOf(i, x)) {
                made++;
            }
        }
        return made;
    }

    public int oldest(int r) {
        return isRow(r) ? forgottenNumber[r] : BAD;
    }

    public int changedSince(int s) {
        if (!isMoment(s)) {
            return 0;
        }
        int rows = 0;
        for (int r = 0; r < ROWS; r++) {
            if (!isTooOld(r, s) && committedValue(r, s) != committedValue(r, lastCommit)) {
                rows |= 1 << r;
            }
        }
        return rows;
    }

    private boolean isSession(int x) {
        return x >= 0 && x < SESSIONS;
    }

    private boolean isRow(int r) {
        return r >= 0 && r < ROWS;
    }

    private boolean isMoment(int s) {
        return s >= 0 && s <= lastCommit;
    }

    private boolean isOpenChangeOf(int i, int x) {
        return commitNumber[i] == OPEN && changedBy[i] == x;
    }

    private boolean isTooOld(int r, int s) {
        return forgottenNumber[r] > s;
    }

    // A row is locked until its transaction ends, so its changes stand in the order of their numbers,
    // open ones last: the first one that moment s does not see holds the value that s does see.
    private int committedValue(int r, int s) {
        for (int i = 0; i < rememberedCount; i++) {
            if (changedRow[i] == r && (commitNumber[i] == OPEN || commitNumber[i] > s)) {
                return valueBefore[i];
            }
        }
        return value[r];
    }

    private boolean makeRoom() {
        if (rememberedCount < CAPACITY) {
            return true;
        }
        if (commitNumber[0] == OPEN) {
            return false;
        }
        forgetOldest();
        return true;
    }

    private void forgetOldest() {
        forgottenNumber[changedRow[0]] = commitNumber[0];
        for (int i = 1; i < rememberedCount; i++) {
            moveChange(i, i - 1);
        }
        rememberedCount--;
    }

    private void remember(int x, int r) {
        changedRow[rememberedCount] = r;
        valueBefore[rememberedCount] = value[r];
        changedBy[rememberedCount] = x;
        commitNumber[rememberedCount] = OPEN;
        rememberedCount++;
    }

    // Newest first, so that a row changed more than once ends with the value before the first change.
    private void restoreRows(int x) {
        for (int i = rememberedCount - 1; i >= 0; i--) {
            if (isOpenChangeOf(i, x)) {
                value[changedRow[i]] = valueBefore[i];
            }
        }
    }

    private void dropOpenChanges(int x) {
        int kept = 0;
        for (int i = 0; i < rememberedCount; i++) {
            if (!isOpenChangeOf(i, x)) {
                moveChange(i, kept);
                kept++;
            }
        }
        rememberedCount = kept;
    }

    private void moveChange(int from, int to) {
        changedRow[to] = changedRow[from];
        valueBefore[to] = valueBefore[from];
        changedBy[to] = changedBy[from];
        commitNumber[to] = commitNumber[from];
    }
}
