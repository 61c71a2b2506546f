/** For each promise of the document: ordinary inputs, the edges that it names, and wrong inputs. */
public final class PromisesTest {
    private static final int OK = UndoReader.OK;
    private static final int BAD = UndoReader.BAD;
    private static final int LOCKED = UndoReader.LOCKED;
    private static final int FULL = UndoReader.FULL;
    private static final int NONE = UndoReader.NONE;
    private static final int TOO_OLD = UndoReader.TOO_OLD;
    private static final int CAPACITY = 24;
    private static final int MIN = Integer.MIN_VALUE;
    private static final int MAX = Integer.MAX_VALUE;
    private static final int[] NO_SESSIONS = {MIN, -4, -1, 4, 5, MAX};
    private static final int[] NO_ROWS = {MIN, -8, -1, 8, 9, 32, MAX};

    private static int wrong = 0;

    public static void main(String[] args) {
        newObject();
        changeOrdinary();
        changeWrongInputs();
        changeLocked();
        changeFull();
        changeForgets();
        commitNumbers();
        commitNone();
        rollbackRestores();
        rollbackKeepsOthers();
        rollbackNone();
        clockCounts();
        readMoments();
        readLeavesOutOpenChanges();
        readTooOld();
        readWrongInputs();
        rawValues();
        holderOfRows();
        locksOfSessions();
        rememberedCount();
        changesCount();
        oldestMoment();
        changedSinceMoment();
        changedSinceTooOld();
        ownReads();
        System.out.println(wrong == 0 ? "all answers are as due" : wrong + " answers are not as due");
        if (wrong != 0) {
            System.exit(1);
        }
    }

    private static void due(String call, int got, int want) {
        if (got != want) {
            wrong++;
            System.out.println(call + " answered " + got + ", due is " + want);
        }
    }

    private static void changeMany(UndoReader u, int x, int r, int times) {
        for (int i = 1; i <= times; i++) {
            due("a change of row " + r, u.change(x, r, 1000 * r + i), OK);
        }
    }

    /** All that can be asked of u without changing it, so that two states can be compared. */
    private static String state(UndoReader u) {
        StringBuilder text = new StringBuilder();
        text.append(u.clock()).append(' ').append(u.remembered());
        for (int x = 0; x < 4; x++) {
            text.append(" x").append(u.locks(x)).append(',').append(u.changes(x));
        }
        for (int r = 0; r < 8; r++) {
            text.append(" r").append(u.raw(r)).append(',').append(u.holder(r)).append(',').append(u.oldest(r));
        }
        for (int s = 0; s <= u.clock(); s++) {
            text.append(" s").append(u.changedSince(s));
            for (int i = 0; i < 32; i++) {
                text.append(',').append(u.read(i / 8, i % 8, s));
            }
        }
        return text.toString();
    }

    private static void same(String call, String before, UndoReader u) {
        String after = state(u);
        if (!before.equals(after)) {
            wrong++;
            System.out.println(call + " changed the state from " + before + " to " + after);
        }
    }

    private static void newObject() {
        UndoReader u = new UndoReader();
        due("1: clock()", u.clock(), 0);
        due("1: remembered()", u.remembered(), 0);
        due("1: changedSince(0)", u.changedSince(0), 0);
        for (int r = 0; r < 8; r++) {
            due("1: raw", u.raw(r), 0);
            due("1: holder", u.holder(r), NONE);
            due("1: oldest", u.oldest(r), 0);
            for (int x = 0; x < 4; x++) {
                due("1: read", u.read(x, r, 0), 0);
            }
        }
        for (int x = 0; x < 4; x++) {
            due("1: locks", u.locks(x), 0);
            due("1: changes", u.changes(x), 0);
            due("1: commit", u.commit(x), NONE);
            due("1: rollback", u.rollback(x), NONE);
        }
        u.change(0, 0, 5);
        due("1: another object's raw(0)", new UndoReader().raw(0), 0);
    }

    private static void changeOrdinary() {
        UndoReader u = new UndoReader();
        due("2: change(0, 0, MIN)", u.change(0, 0, MIN), OK);
        due("2: change(3, 7, MAX)", u.change(3, 7, MAX), OK);
        due("2: raw(0)", u.raw(0), MIN);
        due("2: raw(7)", u.raw(7), MAX);
        due("2: change again", u.change(3, 7, -5), OK);
        due("2: raw(7) again", u.raw(7), -5);
        due("2: change to the same value", u.change(3, 7, -5), OK);
        due("2: changes(3)", u.changes(3), 3);
        due("2: remembered()", u.remembered(), 4);
    }

    private static void changeWrongInputs() {
        UndoReader u = new UndoReader();
        u.change(1, 0, 3);
        String before = state(u);
        for (int x : NO_SESSIONS) {
            due("2: change of session " + x, u.change(x, 1, 9), BAD);
            due("2: change of a locked row by session " + x, u.change(x, 0, 9), BAD);
        }
        for (int r : NO_ROWS) {
            due("2: change of row " + r, u.change(0, r, 9), BAD);
        }
        due("2: change(-1, -1, 0)", u.change(-1, -1, 0), BAD);
        same("2: BAD", before, u);
        changeMany(u, 1, 0, CAPACITY - 1);
        due("2: BAD before FULL, session", u.change(4, 1, 9), BAD);
        due("2: BAD before FULL, row", u.change(0, 8, 9), BAD);
    }

    private static void changeLocked() {
        UndoReader u = new UndoReader();
        u.change(1, 4, 3);
        String before = state(u);
        due("2: change(0, 4, 9)", u.change(0, 4, 9), LOCKED);
        due("2: change(2, 4, 3)", u.change(2, 4, 3), LOCKED);
        same("2: LOCKED", before, u);
        due("2: change by the holder", u.change(1, 4, 8), OK);
        u.commit(1);
        due("2: change after the commit", u.change(0, 4, 9), OK);
        due("2: change by the last holder", u.change(1, 4, 9), LOCKED);
        u.rollback(0);
        due("2: change after the rollback", u.change(2, 4, 9), OK);
    }

    private static void changeFull() {
        UndoReader u = new UndoReader();
        u.change(2, 7, 1);
        changeMany(u, 0, 0, CAPACITY - 2);
        due("2: the 24th change", u.change(1, 1, 5), OK);
        String before = state(u);
        due("2: the 25th change, by another session", u.change(0, 0, 9), FULL);
        due("2: the 25th change, by the oldest's own session", u.change(2, 7, 9), FULL);
        due("2: the 25th change, by a session with nothing open", u.change(3, 6, 9), FULL);
        due("2: LOCKED before FULL", u.change(3, 7, 9), LOCKED);
        same("2: FULL", before, u);
        due("2: no transaction opened by FULL", u.commit(3), NONE);
        u.commit(0);
        due("2: the oldest is open still, others have committed", u.change(3, 6, 9), FULL);
        u.commit(2);
        due("2: the oldest has committed, a later one is open", u.change(3, 6, 9), OK);
        due("2: remembered() stays", u.remembered(), CAPACITY);
        due("2: raw(6)", u.raw(6), 9);
        due("2: oldest(7), forgotten with number 2", u.oldest(7), 2);
        due("2: oldest(0), not yet forgotten", u.oldest(0), 0);
    }

    private static void changeForgets() {
        UndoReader u = new UndoReader();
        changeMany(u, 0, 3, 1);
        u.commit(0);
        changeMany(u, 0, 2, CAPACITY - 1);
        String before = state(u);
        due("2: LOCKED when one could be forgotten", u.change(1, 2, 0), LOCKED);
        same("2: LOCKED when one could be forgotten", before, u);
        due("2: the oldest is forgotten", u.change(0, 2, 7), OK);
        due("2: oldest(3)", u.oldest(3), 1);
        due("2: the next oldest is open, by the same session", u.change(0, 2, 8), FULL);
        due("2: raw(2)", u.raw(2), 7);
        due("2: rollback of 24 changes", u.rollback(0), OK);
        due("2: raw(2) after the rollback", u.raw(2), 0);
        due("2: remembered() after the rollback", u.remembered(), 0);
        due("2: a forgotten change stays forgotten", u.oldest(3), 1);
    }

    private static void commitNumbers() {
        UndoReader u = new UndoReader();
        u.change(0, 0, 1);
        u.change(3, 1, 2);
        u.change(0, 2, 3);
        due("3: commit(3)", u.commit(3), 1);
        due("3: the other transaction is open still", u.changes(0), 2);
        due("3: and holds its row", u.holder(2), 0);
        due("3: commit(0)", u.commit(0), 2);
        due("3: read at 1 does not see the later number", u.read(1, 0, 1), 0);
        due("3: read at 1 sees number 1", u.read(1, 1, 1), 2);
        due("3: read at 2 sees all changes of number 2", u.read(1, 2, 2), 3);
        due("3: read at 2 sees the first of them too", u.read(1, 0, 2), 1);
        due("3: holder is gone", u.holder(0), NONE);
        due("3: changes are remembered still", u.remembered(), 3);
        u.change(0, 0, 9);
        u.rollback(0);
        u.change(0, 0, 9);
        due("3: a rollback takes no number", u.commit(0), 3);
    }

    private static void commitNone() {
        UndoReader u = new UndoReader();
        u.change(0, 0, 1);
        String before = state(u);
        for (int x : NO_SESSIONS) {
            due("3: commit of session " + x, u.commit(x), NONE);
        }
        due("3: commit(1)", u.commit(1), NONE);
        due("3: refused change opens nothing", u.change(1, 0, 5), LOCKED);
        due("3: commit(1) after LOCKED", u.commit(1), NONE);
        same("3: NONE", before, u);
        u.commit(0);
        due("3: commit twice", u.commit(0), NONE);
        due("3: clock()", u.clock(), 1);
        u.change(0, 0, 2);
        u.rollback(0);
        due("3: commit after rollback", u.commit(0), NONE);
    }

    private static void rollbackRestores() {
        UndoReader u = new UndoReader();
        u.change(0, 5, 10);
        u.commit(0);
        u.change(1, 5, 11);
        u.change(1, 5, 12);
        u.change(1, 6, 13);
        u.change(1, 5, 14);
        due("4: rollback(1)", u.rollback(1), OK);
        due("4: raw(5) is as before the first change", u.raw(5), 10);
        due("4: raw(6)", u.raw(6), 0);
        due("4: remembered()", u.remembered(), 1);
        due("4: locks(1)", u.locks(1), 0);
        due("4: changes(1)", u.changes(1), 0);
        due("4: clock()", u.clock(), 1);
        due("4: read at 1", u.read(1, 5, 1), 10);
        due("4: read at 0", u.read(1, 5, 0), 0);
        due("4: rollback does not make reads too old", u.oldest(5), 0);
        u.change(0, 5, 20);
        u.change(0, 7, 21);
        due("4: rollback by a session that has committed before", u.rollback(0), OK);
        due("4: its committed change is remembered still", u.remembered(), 1);
        due("4: raw(5) as committed", u.raw(5), 10);
        due("4: read at 0 as before the commit", u.read(0, 5, 0), 0);
    }

    private static void rollbackKeepsOthers() {
        UndoReader u = new UndoReader();
        u.change(0, 0, 1);
        u.change(1, 1, 2);
        u.change(0, 2, 3);
        u.change(2, 3, 4);
        u.commit(2);
        u.change(0, 0, 5);
        u.change(1, 4, 6);
        due("4: rollback(0)", u.rollback(0), OK);
        due("4: raw(0)", u.raw(0), 0);
        due("4: raw(1)", u.raw(1), 2);
        due("4: raw(3)", u.raw(3), 4);
        due("4: locks(1)", u.locks(1), 18);
        due("4: changes(1)", u.changes(1), 2);
        due("4: remembered()", u.remembered(), 3);
        due("4: read at 0 of a committed row", u.read(0, 3, 0), 0);
        changeMany(u, 3, 6, CAPACITY - 3);
        due("4: the oldest left is open", u.change(3, 6, 0), FULL);
        due("4: rollback(1)", u.rollback(1), OK);
        due("4: raw(1) after rollback(1)", u.raw(1), 0);
        due("4: raw(4) after rollback(1)", u.raw(4), 0);
        changeMany(u, 3, 6, 2);
        due("4: the oldest left has committed", u.change(3, 6, 0), OK);
        due("4: it is the one of row 3", u.oldest(3), 1);
    }

    private static void rollbackNone() {
        UndoReader u = new UndoReader();
        u.change(0, 0, 1);
        u.commit(0);
        u.change(1, 0, 2);
        String before = state(u);
        for (int x : NO_SESSIONS) {
            due("4: rollback of session " + x, u.rollback(x), NONE);
        }
        due("4: rollback after commit", u.rollback(0), NONE);
        due("4: rollback(2)", u.rollback(2), NONE);
        same("4: NONE", before, u);
        u.rollback(1);
        due("4: rollback twice", u.rollback(1), NONE);
        due("4: raw(0)", u.raw(0), 1);
    }

    private static void clockCounts() {
        UndoReader u = new UndoReader();
        for (int i = 1; i <= 100; i++) {
            u.change(i % 4, i % 8, i);
            due("5: clock() before a commit", u.clock(), i - 1);
            u.commit(i % 4);
            due("5: clock() after a commit", u.clock(), i);
        }
        u.change(0, 0, 1);
        u.rollback(0);
        u.commit(0);
        due("5: clock() after a rollback and a commit of nothing", u.clock(), 100);
    }

    private static void readMoments() {
        UndoReader u = new UndoReader();
        int[] values = {0, 10, -7, 10, MAX, MIN};
        for (int s = 1; s < values.length; s++) {
            u.change(s % 4, 2, 77);
            u.change(s % 4, 2, values[s]);
            u.commit(s % 4);
        }
        for (int s = 0; s < values.length; s++) {
            for (int x = 0; x < 4; x++) {
                due("6: read(" + x + ", 2, " + s + ")", u.read(x, 2, s), values[s]);
                due("6: read(" + x + ", 3, " + s + ")", u.read(x, 3, s), 0);
            }
        }
    }

    private static void readLeavesOutOpenChanges() {
        UndoReader u = new UndoReader();
        u.change(0, 2, 5);
        u.commit(0);
        u.change(1, 2, 6);
        u.change(1, 2, 7);
        due("6: read at 0 by another", u.read(0, 2, 0), 0);
        due("6: read at 1 by another", u.read(0, 2, 1), 5);
        due("6: another row read by the holder", u.read(1, 3, 1), 0);
        u.change(2, 3, 8);
        due("6: another's row read by a session that changed its own", u.read(1, 3, 1), 0);
        u.commit(2);
        due("6: read at 2, open change left out", u.read(0, 2, 2), 5);
        due("6: read at 2 by the holder", u.read(1, 2, 2), 7);
        u.commit(1);
        due("6: read at 2 after the commit", u.read(1, 2, 2), 5);
        due("6: read at 3 after the commit", u.read(0, 2, 3), 7);
    }

    private static void readTooOld() {
        UndoReader u = new UndoReader();
        u.change(0, 1, 10);
        u.change(0, 1, 11);
        u.commit(0);
        u.change(0, 1, 12);
        u.commit(0);
        changeMany(u, 3, 7, CAPACITY - 3);
        due("6: nothing is forgotten at 24", u.read(2, 1, 0), 0);
        changeMany(u, 3, 7, 1);
        due("6: one of two changes of number 1 is forgotten", u.read(2, 1, 0), TOO_OLD);
        due("6: read at the forgotten number itself", u.read(2, 1, 1), 11);
        due("6: a row of which nothing is forgotten", u.read(2, 2, 0), 0);
        changeMany(u, 3, 7, 1);
        due("6: both changes of number 1 are forgotten", u.read(2, 1, 1), 11);
        changeMany(u, 3, 7, 1);
        due("6: the change of number 2 is forgotten", u.read(2, 1, 1), TOO_OLD);
        due("6: read at 2", u.read(2, 1, 2), 12);
    }

    private static void readWrongInputs() {
        UndoReader u = new UndoReader();
        u.change(0, 0, 5);
        u.commit(0);
        u.change(0, 0, 6);
        for (int x : NO_SESSIONS) {
            due("6: read by session " + x, u.read(x, 0, 0), BAD);
        }
        for (int r : NO_ROWS) {
            due("6: read of row " + r, u.read(0, r, 0), BAD);
        }
        for (int s : new int[] {MIN, -1, 2, MAX}) {
            due("6: read at " + s, u.read(1, 0, s), BAD);
            due("6: read at " + s + " by the holder", u.read(0, 0, s), BAD);
        }
        due("6: read at the clock", u.read(1, 0, 1), 5);
        due("6: read at 0", u.read(1, 0, 0), 0);
    }

    private static void rawValues() {
        UndoReader u = new UndoReader();
        for (int r = 0; r < 8; r++) {
            u.change(r % 4, r, r - 20);
        }
        for (int r = 0; r < 8; r++) {
            due("7: raw of an open change", u.raw(r), r - 20);
        }
        u.commit(1);
        u.rollback(2);
        due("7: raw after a commit", u.raw(5), -15);
        due("7: raw after a rollback", u.raw(6), 0);
        for (int r : NO_ROWS) {
            due("7: raw(" + r + ")", u.raw(r), 0);
        }
    }

    private static void holderOfRows() {
        UndoReader u = new UndoReader();
        for (int r = 0; r < 8; r++) {
            u.change(r % 4, r, 0);
        }
        for (int r = 0; r < 8; r++) {
            due("8: holder(" + r + ")", u.holder(r), r % 4);
        }
        u.commit(0);
        u.rollback(3);
        u.change(1, 0, 1);
        int[] holders = {1, 1, 2, NONE, NONE, 1, 2, NONE};
        for (int r = 0; r < 8; r++) {
            due("8: holder(" + r + ") later", u.holder(r), holders[r]);
        }
        for (int r : NO_ROWS) {
            due("8: holder(" + r + ")", u.holder(r), NONE);
        }
    }

    private static void locksOfSessions() {
        UndoReader u = new UndoReader();
        u.change(0, 0, 1);
        u.change(0, 7, 1);
        u.change(0, 7, 2);
        u.change(3, 4, 1);
        u.change(3, 0, 1);
        due("9: locks(0)", u.locks(0), 129);
        due("9: locks(1)", u.locks(1), 0);
        due("9: locks(3), LOCKED adds no lock", u.locks(3), 16);
        u.commit(0);
        due("9: locks(0) after the commit", u.locks(0), 0);
        u.change(3, 0, 1);
        due("9: locks(3) of a row that was freed", u.locks(3), 17);
        u.rollback(3);
        due("9: locks(3) after the rollback", u.locks(3), 0);
        u.change(1, 2, 1);
        for (int x : NO_SESSIONS) {
            due("9: locks(" + x + ")", u.locks(x), 0);
        }
    }

    private static void rememberedCount() {
        UndoReader u = new UndoReader();
        for (int i = 1; i <= CAPACITY; i++) {
            u.change(0, i % 8, i);
            due("10: remembered() of open changes", u.remembered(), i);
        }
        u.change(0, 0, 1);
        due("10: remembered() after FULL", u.remembered(), CAPACITY);
        u.commit(0);
        due("10: remembered() after the commit", u.remembered(), CAPACITY);
        changeMany(u, 1, 3, 5);
        due("10: remembered() never above 24", u.remembered(), CAPACITY);
        u.rollback(1);
        due("10: remembered(), what was forgotten does not come back", u.remembered(), CAPACITY - 5);
    }

    private static void changesCount() {
        UndoReader u = new UndoReader();
        changeMany(u, 2, 5, 3);
        changeMany(u, 1, 6, 1);
        u.change(2, 6, 1);
        due("11: changes(2), LOCKED not counted", u.changes(2), 3);
        due("11: changes(1)", u.changes(1), 1);
        due("11: changes(0)", u.changes(0), 0);
        u.commit(2);
        due("11: changes(2) after the commit", u.changes(2), 0);
        changeMany(u, 2, 5, 2);
        due("11: changes(2) of the new transaction", u.changes(2), 2);
        u.rollback(2);
        due("11: changes(2) after the rollback", u.changes(2), 0);
        for (int x : NO_SESSIONS) {
            due("11: changes(" + x + ")", u.changes(x), 0);
        }
        u.commit(1);
        changeMany(u, 3, 0, CAPACITY);
        u.change(3, 0, 1);
        due("11: changes(3), FULL not counted", u.changes(3), CAPACITY);
    }

    private static void oldestMoment() {
        UndoReader u = new UndoReader();
        u.change(0, 0, 1);
        u.change(1, 1, 1);
        u.commit(1);
        u.commit(0);
        changeMany(u, 2, 2, CAPACITY - 2);
        due("12: oldest(0), nothing forgotten", u.oldest(0), 0);
        changeMany(u, 2, 2, 1);
        due("12: oldest(0), made first and committed second", u.oldest(0), 2);
        due("12: oldest(1), not forgotten yet", u.oldest(1), 0);
        changeMany(u, 2, 2, 1);
        due("12: oldest(1)", u.oldest(1), 1);
        due("12: oldest(0) stays", u.oldest(0), 2);
        due("12: oldest(2), open changes", u.oldest(2), 0);
        u.rollback(2);
        due("12: oldest(0) stays after the rollback", u.oldest(0), 2);
        for (int r : NO_ROWS) {
            due("12: oldest(" + r + ")", u.oldest(r), BAD);
        }
        UndoReader w = new UndoReader();
        w.change(0, 0, TOO_OLD);
        w.commit(0);
        due("12: a value like TOO_OLD is a value", w.oldest(0), 0);
    }

    private static void changedSinceMoment() {
        UndoReader u = new UndoReader();
        u.change(0, 0, 5);
        u.change(0, 7, 5);
        u.commit(0);
        u.change(0, 0, 6);
        u.change(0, 1, 0);
        u.commit(0);
        u.change(0, 0, 5);
        u.commit(0);
        due("13: changedSince(0)", u.changedSince(0), 129);
        due("13: changedSince(1), changed and changed back", u.changedSince(1), 0);
        due("13: changedSince(2)", u.changedSince(2), 1);
        due("13: changedSince(clock)", u.changedSince(3), 0);
        for (int x = 0; x < 4; x++) {
            u.change(x, x, 40 + x);
        }
        due("13: open changes of all sessions are left out", u.changedSince(0), 129);
        due("13: open changes are left out at the clock", u.changedSince(3), 0);
        for (int s : new int[] {MIN, -1, 4, MAX}) {
            due("13: changedSince(" + s + ")", u.changedSince(s), 0);
        }
    }

    private static void changedSinceTooOld() {
        UndoReader u = new UndoReader();
        u.change(0, 3, 5);
        u.change(0, 4, TOO_OLD);
        u.commit(0);
        u.change(0, 3, 6);
        u.change(0, 5, TOO_OLD);
        u.commit(0);
        changeMany(u, 1, 6, CAPACITY - 4);
        due("13: values like TOO_OLD are values", u.changedSince(0), 56);
        changeMany(u, 1, 6, 1);
        due("13: a row too old at 0 is left out", u.changedSince(0), 48);
        due("13: but not at 1", u.changedSince(1), 40);
        u.change(2, 4, 0);
        u.commit(2);
        due("13: a value like TOO_OLD at the earlier moment", u.changedSince(2), 16);
    }

    private static void ownReads() {
        UndoReader u = new UndoReader();
        u.change(0, 1, 10);
        u.commit(0);
        u.change(1, 1, 20);
        changeMany(u, 2, 7, CAPACITY - 2);
        due("14: the change of number 1 is forgotten", u.change(1, 2, 21), OK);
        due("14: another's read", u.read(0, 1, 0), TOO_OLD);
        due("14: the holder's read", u.read(1, 1, 0), 20);
        due("14: the holder's read at the clock", u.read(1, 1, 1), 20);
        due("14: another's read at the clock", u.read(0, 1, 1), 10);
        due("14: oldest is told for a session that has not changed the row", u.oldest(1), 1);
        u.commit(1);
        due("14: the last holder's read", u.read(1, 1, 0), TOO_OLD);
        due("14: the last holder's read at 1", u.read(1, 1, 1), 10);
    }
}
