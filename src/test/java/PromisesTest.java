/**
 * A test for each sentence of the promises 1 to 14: ordinary inputs, the boundary cases that it names
 * (too small, too large, empty, full, a wrap-around, a refused call), and wrong inputs.
 */
public final class PromisesTest {
    private static final int OK = CheckedReader.OK;
    private static final int BAD = CheckedReader.BAD;
    private static final int LOCKED = CheckedReader.LOCKED;
    private static final int FULL = CheckedReader.FULL;
    private static final int NONE = CheckedReader.NONE;
    private static final int TOO_OLD = CheckedReader.TOO_OLD;
    private static final int CAPACITY = CheckedReader.CAPACITY;
    private static final int MIN = CheckedReader.MIN;
    private static final int MAX = CheckedReader.MAX;
    private static final int[] NO_SESSIONS = CheckedReader.NO_SESSIONS;
    private static final int[] NO_ROWS = CheckedReader.NO_ROWS;

    public static void main(String[] args) {
        newObject();
        newObjectsAreApart();
        changeGivesTheValue();
        changeBad();
        changeLocked();
        changeFull();
        changeOtherwiseOk();
        changeFirstThatApplies();
        changeBadChangesNothing();
        changeLockedChangesNothing();
        changeFullChangesNothing();
        changeRefusedForgetsNothing();
        commitAnswersTheNumber();
        commitNoneOpen();
        commitNoSession();
        rollbackAnswersOk();
        rollbackNoneOpen();
        rollbackNoSession();
        clockAnswer();
        readAnswer();
        readBad();
        readBadMoment();
        readBadMomentOfOwnAndTooOld();
        rawAnswer();
        rawNoRow();
        holderAnswer();
        holderNone();
        holderNoRow();
        locksAnswer();
        locksAllRows();
        locksNoSession();
        rememberedAnswer();
        changesAnswer();
        changesNoneOpen();
        changesNoSession();
        oldestAnswer();
        oldestWhileRowIsChanged();
        oldestUpToTheClock();
        oldestOfAValueLikeTooOld();
        oldestBad();
        changedSinceAnswer();
        changedSinceAllRows();
        changedSinceLongRun();
        changedSinceLeavesOutOpen();
        changedSinceBothGiveValues();
        changedSinceValueLikeTooOld();
        changedSinceNoMoment();
        ownReadNeverTooOld();
        ownReadEndsWithTheTransaction();
        askingChangesNothing();
        CheckedReader.end();
    }

    private static void newObject() {
        CheckedReader u = CheckedReader.about("1: All rows are 0, nothing is open or remembered.");
        u.clock(0);
        u.remembered(0);
        u.changedSince(0, 0);
        for (int r = 0; r < 8; r++) {
            u.raw(r, 0);
            u.holder(r, NONE);
            u.oldest(r, 0);
            for (int x = 0; x < 4; x++) {
                u.read(x, r, 0, 0);
            }
        }
        for (int x = 0; x < 4; x++) {
            u.locks(x, 0);
            u.changes(x, 0);
            u.commit(x, NONE);
            u.rollback(x, NONE);
        }
        // All 24 places are free.
        u.changeTimes(CAPACITY, 0, 0);
    }

    private static void newObjectsAreApart() {
        CheckedReader u = CheckedReader.about("1: All rows are 0, nothing is open or remembered.");
        u.change(0, 0, 5, OK);
        u.commit(0, 1);
        u.change(1, 7, 6, OK);
        CheckedReader w = u.another();
        w.raw(0, 0);
        w.raw(7, 0);
        w.clock(0);
        w.remembered(0);
        w.holder(7, NONE);
        w.change(2, 7, 9, OK);
        u.raw(7, 6);
        u.holder(7, 1);
    }

    private static void changeGivesTheValue() {
        CheckedReader u = CheckedReader.about("2: Session x gives row r the value v.");
        u.change(0, 0, MIN, OK);
        u.change(3, 7, MAX, OK);
        u.raw(0, MIN);
        u.raw(7, MAX);
        u.holder(0, 0);
        u.holder(7, 3);
        u.change(3, 7, -5, OK);
        u.raw(7, -5);
        for (int r = 1; r < 7; r++) {
            u.raw(r, 0);
        }
    }

    private static void changeBad() {
        CheckedReader u = CheckedReader.about("2: BAD when x is not 0 .. 3 or r is not 0 .. 7");
        for (int x : NO_SESSIONS) {
            u.change(x, 0, 9, BAD);
            u.change(x, 7, 9, BAD);
        }
        for (int r : NO_ROWS) {
            u.change(0, r, 9, BAD);
            u.change(3, r, 9, BAD);
        }
        u.change(-1, -1, 0, BAD);
        u.change(4, 8, 0, BAD);
        u.change(0, 0, 9, OK);
        u.change(3, 7, 9, OK);
    }

    private static void changeLocked() {
        CheckedReader u = CheckedReader.about("2: LOCKED when r is locked by another session's transaction");
        for (int x = 0; x < 4; x++) {
            u.change(x, 2 * x, 5, OK);
            u.change(x, 2 * x + 1, 5, OK);
        }
        for (int r = 0; r < 8; r++) {
            for (int x = 0; x < 4; x++) {
                u.change(x, r, 6, x == r / 2 ? OK : LOCKED);
            }
        }
        u.commit(1, 1);
        u.change(0, 2, 9, OK);
        u.change(1, 2, 9, LOCKED);
        u.rollback(0, OK);
        u.change(2, 2, 9, OK);
        u.change(0, 2, 9, LOCKED);
    }

    private static void changeFull() {
        CheckedReader u = CheckedReader.about("2: FULL when the change is refused");
        u.changeTimes(CAPACITY, 1, 6);
        u.change(1, 6, 9, FULL);
        u.change(1, 5, 9, FULL);
        u.change(0, 0, 9, FULL);
        u.change(3, 7, 9, FULL);
        u.commit(1, 1);
        u.changeTimes(CAPACITY, 0, 0);
        u.change(0, 0, 9, FULL);
        u.rollback(0, OK);
        u.change(1, 0, 9, OK);
    }

    private static void changeOtherwiseOk() {
        CheckedReader u = CheckedReader.about("2: otherwise OK");
        u.change(2, 3, 0, OK);
        u.change(2, 3, 0, OK);
        u.change(2, 4, 1, OK);
        u.commit(2, 1);
        u.change(1, 3, 0, OK);
        u.changeTimes(20, 0, 7);
        u.remembered(24);
        // 24 are remembered, and the oldest has committed.
        u.change(1, 3, 2, OK);
        u.change(3, 4, 2, OK);
        u.change(3, 5, 2, OK);
        u.remembered(24);
        u.change(3, 5, 3, FULL);
    }

    private static void changeFirstThatApplies() {
        CheckedReader u = CheckedReader.about("2: Answers, by the first that applies");
        u.change(1, 0, 3, OK);
        // The row is locked by another.
        u.change(-1, 0, 9, BAD);
        u.change(4, 0, 9, BAD);
        u.changeTimes(CAPACITY - 1, 1, 0);
        // A change would be refused.
        u.change(0, 1, 9, FULL);
        u.change(4, 1, 9, BAD);
        u.change(-1, 1, 9, BAD);
        u.change(0, 8, 9, BAD);
        u.change(0, -1, 9, BAD);
        u.change(1, 8, 9, BAD);
        // Both of them.
        u.change(4, 0, 9, BAD);
        u.change(0, 0, 9, LOCKED);
        u.change(2, 0, 9, LOCKED);
        u.change(1, 0, 9, FULL);
    }

    private static void changeBadChangesNothing() {
        CheckedReader u = CheckedReader.about("2: Only OK changes anything.");
        u.change(1, 0, 3, OK);
        String before = u.state();
        for (int x : NO_SESSIONS) {
            u.change(x, 1, 9, BAD);
        }
        for (int r : NO_ROWS) {
            u.change(0, r, 9, BAD);
            u.change(1, r, 9, BAD);
        }
        u.stillIs(before);
    }

    private static void changeLockedChangesNothing() {
        CheckedReader u = CheckedReader.about("2: Only OK changes anything.");
        u.change(1, 4, 3, OK);
        u.commit(1, 1);
        u.change(1, 4, 5, OK);
        u.change(2, 6, 7, OK);
        String before = u.state();
        u.change(0, 4, 9, LOCKED);
        u.change(2, 4, 5, LOCKED);
        u.change(1, 6, 3, LOCKED);
        u.stillIs(before);
        u.commit(0, NONE);
    }

    private static void changeFullChangesNothing() {
        CheckedReader u = CheckedReader.about("2: Only OK changes anything.");
        u.change(2, 7, 1, OK);
        u.change(1, 5, 2, OK);
        u.commit(1, 1);
        u.changeTimes(CAPACITY - 2, 0, 0);
        String before = u.state();
        u.change(0, 0, 9, FULL);
        u.change(0, 1, 9, FULL);
        u.change(2, 7, 9, FULL);
        u.change(3, 6, 9, FULL);
        u.change(3, 5, 9, FULL);
        u.stillIs(before);
        u.commit(3, NONE);
        u.rollback(3, NONE);
    }

    private static void changeRefusedForgetsNothing() {
        CheckedReader u = CheckedReader.about("2: Only OK changes anything.");
        u.change(0, 3, 1, OK);
        u.commit(0, 1);
        u.changeTimes(CAPACITY - 1, 0, 2);
        // The next change that is OK forgets the one of row 3; these are not OK.
        String before = u.state();
        u.change(1, 2, 9, LOCKED);
        u.change(4, 1, 9, BAD);
        u.change(-1, 1, 9, BAD);
        u.change(1, 8, 9, BAD);
        u.change(0, -1, 9, BAD);
        u.stillIs(before);
        u.oldest(3, 0);
        u.change(1, 1, 9, OK);
        u.oldest(3, 1);
    }

    private static void commitAnswersTheNumber() {
        CheckedReader u = CheckedReader.about("3: Session x commits; answers the commit's number.");
        u.change(0, 0, 1, OK);
        u.change(3, 1, 2, OK);
        u.change(0, 2, 3, OK);
        u.commit(3, 1);
        u.changes(3, 0);
        u.holder(1, NONE);
        u.changes(0, 2);
        u.holder(2, 0);
        u.commit(0, 2);
        u.holder(0, NONE);
        u.holder(2, NONE);
        u.read(1, 0, 2, 1);
        u.read(1, 0, 1, 0);
        u.remembered(3);
        u.change(0, 0, 9, OK);
        u.rollback(0, OK);
        u.change(0, 0, 8, OK);
        u.commit(0, 3);
        u.changeTimes(CAPACITY, 1, 5);
        u.commit(1, 4);
        u.clock(4);
    }

    private static void commitNoneOpen() {
        CheckedReader u = CheckedReader.about("3: NONE, changing nothing, when x has no open transaction");
        u.commit(0, NONE);
        u.clock(0);
        u.change(0, 0, 1, OK);
        u.change(1, 0, 5, LOCKED);
        String before = u.state();
        u.commit(1, NONE);
        u.commit(2, NONE);
        u.commit(3, NONE);
        u.stillIs(before);
        u.commit(0, 1);
        u.commit(0, NONE);
        u.change(0, 0, 2, OK);
        u.rollback(0, OK);
        u.commit(0, NONE);
        u.clock(1);
        u.read(2, 0, 1, 1);
    }

    private static void commitNoSession() {
        CheckedReader u = CheckedReader.about("3: NONE, changing nothing, when x has no open transaction or is not 0 .. 3.");
        for (int x = 0; x < 4; x++) {
            u.change(x, x, 5, OK);
        }
        String before = u.state();
        for (int x : NO_SESSIONS) {
            u.commit(x, NONE);
        }
        u.stillIs(before);
    }

    private static void rollbackAnswersOk() {
        CheckedReader u = CheckedReader.about("4: Session x rolls back and answers OK");
        u.change(0, 5, 10, OK);
        u.commit(0, 1);
        u.change(0, 5, 20, OK);
        u.change(1, 6, 30, OK);
        u.change(0, 7, 21, OK);
        u.rollback(0, OK);
        u.raw(5, 10);
        u.raw(6, 30);
        u.raw(7, 0);
        u.locks(0, 0);
        u.changes(0, 0);
        u.clock(1);
        // What the session has committed before stays as it is.
        u.remembered(2);
        u.read(0, 5, 0, 0);
        u.read(0, 5, 1, 10);
        u.rollback(1, OK);
        u.remembered(1);
    }

    private static void rollbackNoneOpen() {
        CheckedReader u = CheckedReader.about("4: NONE, changing nothing, when x has no open transaction");
        u.rollback(0, NONE);
        u.change(0, 0, 1, OK);
        u.commit(0, 1);
        u.change(1, 0, 2, OK);
        u.change(2, 0, 3, LOCKED);
        String before = u.state();
        u.rollback(0, NONE);
        u.rollback(2, NONE);
        u.rollback(3, NONE);
        u.stillIs(before);
        u.rollback(1, OK);
        u.rollback(1, NONE);
        u.raw(0, 1);
        u.remembered(1);
    }

    private static void rollbackNoSession() {
        CheckedReader u = CheckedReader.about("4: NONE, changing nothing, when x has no open transaction or is not 0 .. 3.");
        for (int x = 0; x < 4; x++) {
            u.change(x, x, 5, OK);
        }
        String before = u.state();
        for (int x : NO_SESSIONS) {
            u.rollback(x, NONE);
        }
        u.stillIs(before);
    }

    private static void clockAnswer() {
        CheckedReader u = CheckedReader.about("5: The clock.");
        u.clock(0);
        u.change(3, 7, 1, OK);
        u.clock(0);
        u.commit(3, 1);
        u.clock(1);
        u.commit(3, NONE);
        u.commit(4, NONE);
        u.clock(1);
        u.change(0, 7, 1, OK);
        u.change(1, 6, 1, OK);
        u.rollback(0, OK);
        u.clock(1);
        u.commit(1, 2);
        u.clock(2);
    }

    private static void readAnswer() {
        CheckedReader u = CheckedReader.about("6: A read of row r at moment s by session x");
        u.change(0, 2, 5, OK);
        u.commit(0, 1);
        u.change(1, 2, 6, OK);
        u.change(3, 7, 8, OK);
        u.read(0, 2, 0, 0);
        u.read(0, 2, 1, 5);
        u.read(1, 2, 0, 6);
        u.read(1, 2, 1, 6);
        u.read(3, 7, 0, 8);
        u.read(0, 7, 1, 0);
        u.changeTimes(CAPACITY - 2, 3, 7);
        u.read(0, 2, 0, TOO_OLD);
        u.read(0, 2, 1, 5);
        u.read(1, 2, 0, 6);
    }

    private static void readBad() {
        CheckedReader u = CheckedReader.about("6: BAD when x is not 0 .. 3, r is not 0 .. 7");
        for (int r = 0; r < 8; r++) {
            u.change(0, r, 5, OK);
        }
        u.commit(0, 1);
        for (int x : NO_SESSIONS) {
            u.read(x, 0, 0, BAD);
            u.read(x, 7, 1, BAD);
        }
        for (int r : NO_ROWS) {
            u.read(0, r, 0, BAD);
            u.read(3, r, 1, BAD);
        }
        u.read(-1, -1, -1, BAD);
        u.read(4, 8, 2, BAD);
        u.read(0, 0, 1, 5);
        u.read(3, 7, 0, 0);
    }

    private static void readBadMoment() {
        CheckedReader u = CheckedReader.about("6: or s is not from 0 to the clock");
        u.read(0, 0, 0, 0);
        u.read(0, 0, 1, BAD);
        u.read(0, 0, -1, BAD);
        for (int clock = 1; clock <= 5; clock++) {
            u.change(0, 0, 10 * clock, OK);
            // The transaction's own number does not exist before it commits.
            u.read(1, 0, clock, BAD);
            u.commit(0, clock);
            u.read(1, 0, clock, 10 * clock);
            u.read(1, 0, 0, 0);
            for (int s : new int[] {MIN, -256, -1, clock + 1, clock + 256, 65536, MAX}) {
                u.read(1, 0, s, BAD);
            }
        }
        u.change(0, 0, 1, OK);
        u.rollback(0, OK);
        u.read(1, 0, 6, BAD);
    }

    private static void readBadMomentOfOwnAndTooOld() {
        CheckedReader u = CheckedReader.about("6: or s is not from 0 to the clock");
        u.change(0, 1, 10, OK);
        u.commit(0, 1);
        u.change(2, 7, 20, OK);
        u.changeTimes(CAPACITY - 1, 2, 7);
        for (int s : new int[] {MIN, -1, 2, MAX}) {
            u.read(2, 7, s, BAD);
            u.read(3, 1, s, BAD);
        }
        u.read(2, 7, 0, CAPACITY - 1);
        u.read(3, 1, 0, TOO_OLD);
    }

    private static void rawAnswer() {
        CheckedReader u = CheckedReader.about(
            "7: The value of row r as it is now, changes of open transactions included");
        for (int r = 0; r < 8; r++) {
            u.change(r % 4, r, r - 20, OK);
        }
        for (int r = 0; r < 8; r++) {
            u.raw(r, r - 20);
        }
        u.commit(1, 1);
        u.rollback(2, OK);
        u.raw(5, -15);
        u.raw(6, 0);
        u.raw(7, -13);
        u.change(1, 5, MAX, OK);
        u.raw(5, MAX);
        u.change(1, 5, TOO_OLD, OK);
        u.raw(5, TOO_OLD);
    }

    private static void rawNoRow() {
        CheckedReader u = CheckedReader.about("7: 0 when r is not 0 .. 7");
        for (int r = 0; r < 8; r++) {
            u.change(r % 4, r, 5, OK);
        }
        for (int r : NO_ROWS) {
            u.raw(r, 0);
        }
    }

    private static void holderAnswer() {
        CheckedReader u = CheckedReader.about("8: The session whose open transaction has locked row r");
        for (int r = 0; r < 8; r++) {
            u.change(r % 4, r, 0, OK);
        }
        for (int r = 0; r < 8; r++) {
            u.holder(r, r % 4);
        }
        u.change(0, 1, 1, LOCKED);
        u.holder(1, 1);
        u.commit(0, 1);
        u.change(1, 0, 1, OK);
        u.holder(0, 1);
    }

    private static void holderNone() {
        CheckedReader u = CheckedReader.about("8: NONE when there is none");
        u.holder(3, NONE);
        u.change(0, 0, 5, OK);
        u.change(0, 7, 5, OK);
        u.change(1, 3, 5, OK);
        u.holder(4, NONE);
        u.commit(0, 1);
        u.holder(0, NONE);
        u.holder(7, NONE);
        u.rollback(1, OK);
        u.holder(3, NONE);
        u.changeTimes(CAPACITY - 2, 2, 6);
        u.change(3, 5, 1, OK);
        u.oldest(0, 1);
        u.holder(0, NONE);
        u.change(2, 6, 1, OK);
        u.change(3, 4, 1, FULL);
        u.holder(4, NONE);
    }

    private static void holderNoRow() {
        CheckedReader u = CheckedReader.about("8: NONE when there is none or r is not 0 .. 7");
        for (int r = 0; r < 8; r++) {
            u.change(3, r, 5, OK);
        }
        for (int r : NO_ROWS) {
            u.holder(r, NONE);
        }
    }

    private static void locksAnswer() {
        CheckedReader u = CheckedReader.about("9: The rows that session x has locked: bit r for row r");
        u.change(0, 0, 1, OK);
        u.change(0, 7, 1, OK);
        u.change(0, 7, 2, OK);
        u.change(3, 4, 0, OK);
        u.change(3, 0, 1, LOCKED);
        u.locks(0, 129);
        u.locks(1, 0);
        u.locks(3, 16);
        u.commit(0, 1);
        u.locks(0, 0);
        u.change(3, 0, 1, OK);
        u.locks(3, 17);
        u.rollback(3, OK);
        u.locks(3, 0);
        u.changeTimes(CAPACITY - 3, 1, 2);
        u.changeTimes(3, 1, 2);
        u.change(1, 3, 1, FULL);
        u.locks(1, 4);
    }

    private static void locksAllRows() {
        CheckedReader u = CheckedReader.about("9: The rows that session x has locked: bit r for row r");
        int rows = 0;
        for (int r = 7; r >= 0; r--) {
            u.change(2, r, r, OK);
            rows |= 1 << r;
            u.locks(2, rows);
        }
        u.locks(2, 255);
        u.locks(0, 0);
        u.rollback(2, OK);
        u.locks(2, 0);
    }

    private static void locksNoSession() {
        CheckedReader u = CheckedReader.about("9: 0 when x is not 0 .. 3");
        for (int x = 0; x < 4; x++) {
            u.change(x, x, 5, OK);
        }
        for (int x : NO_SESSIONS) {
            u.locks(x, 0);
        }
        u.locks(0, 1);
        u.locks(3, 8);
    }

    private static void rememberedAnswer() {
        CheckedReader u = CheckedReader.about("10: The number of changes that are remembered.");
        u.remembered(0);
        for (int i = 1; i <= CAPACITY; i++) {
            u.change(0, i % 8, i, OK);
            u.remembered(i);
        }
        u.change(0, 0, 1, FULL);
        u.remembered(24);
        u.commit(0, 1);
        u.remembered(24);
        u.change(4, 0, 1, BAD);
        u.remembered(24);
        for (int i = 1; i <= 5; i++) {
            u.change(1, 3, i, OK);
            u.remembered(24);
        }
        u.change(2, 3, 9, LOCKED);
        u.remembered(24);
        u.rollback(1, OK);
        // What was forgotten does not come back.
        u.remembered(19);
    }

    private static void changesAnswer() {
        CheckedReader u = CheckedReader.about(
            "11: The number of changes that the open transaction of session x has made");
        u.changeTimes(3, 2, 5);
        u.change(1, 6, 0, OK);
        u.change(2, 6, 1, LOCKED);
        u.change(2, 8, 1, BAD);
        u.changes(2, 3);
        u.changes(1, 1);
        u.commit(2, 1);
        u.changeTimes(2, 2, 5);
        u.changes(2, 2);
        u.changes(1, 1);
        u.rollback(2, OK);
        u.rollback(1, OK);
        u.changeTimes(CAPACITY, 3, 0);
        u.changes(3, 24);
        u.change(3, 0, 1, FULL);
        u.changes(3, 24);
    }

    private static void changesNoneOpen() {
        CheckedReader u = CheckedReader.about("11: 0 when it has none");
        u.changes(0, 0);
        u.change(0, 0, 1, OK);
        u.changes(1, 0);
        u.commit(0, 1);
        u.changes(0, 0);
        u.change(0, 0, 2, OK);
        u.rollback(0, OK);
        u.changes(0, 0);
        u.change(1, 0, 2, OK);
        u.change(0, 0, 2, LOCKED);
        u.changes(0, 0);
    }

    private static void changesNoSession() {
        CheckedReader u = CheckedReader.about("11: 0 when it has none or x is not 0 .. 3");
        for (int x = 0; x < 4; x++) {
            u.change(x, x, 5, OK);
        }
        for (int x : NO_SESSIONS) {
            u.changes(x, 0);
        }
        u.changes(0, 1);
        u.changes(3, 1);
    }

    private static void oldestAnswer() {
        CheckedReader u = CheckedReader.about("12: The least moment s at which a read of row r "
            + "by a session that has not changed it would not give TOO_OLD");
        u.change(0, 0, 1, OK);
        u.change(1, 7, 1, OK);
        u.commit(1, 1);
        u.commit(0, 2);
        u.change(0, 0, 2, OK);
        u.commit(0, 3);
        u.changeTimes(CAPACITY - 3, 2, 2);
        u.oldest(0, 0);
        u.read(3, 0, 0, 0);
        u.changeTimes(1, 2, 2);
        u.oldest(0, 2);
        u.read(3, 0, 1, TOO_OLD);
        u.read(3, 0, 2, 1);
        u.oldest(7, 0);
        u.changeTimes(1, 2, 2);
        u.oldest(7, 1);
        u.oldest(0, 2);
        u.changeTimes(1, 2, 2);
        u.oldest(0, 3);
        u.oldest(7, 1);
        u.oldest(1, 0);
        u.oldest(2, 0);
        u.rollback(2, OK);
        u.oldest(0, 3);
        u.oldest(7, 1);
    }

    private static void oldestWhileRowIsChanged() {
        CheckedReader u = CheckedReader.about("12: by a session that has not changed it");
        u.change(0, 1, 10, OK);
        u.commit(0, 1);
        u.change(1, 1, 20, OK);
        u.changeTimes(CAPACITY - 2, 2, 7);
        u.oldest(1, 0);
        u.change(2, 7, 9, OK);
        u.oldest(1, 1);
        u.read(1, 1, 0, 20);
        u.commit(1, 2);
        u.oldest(1, 1);
    }

    private static void oldestUpToTheClock() {
        CheckedReader u = CheckedReader.about(
            "12: The least moment s at which a read of row r by a session that has not changed it would not give TOO_OLD");
        u.change(0, 3, 1, OK);
        u.commit(0, 1);
        u.change(0, 3, 2, OK);
        u.commit(0, 2);
        u.changeTimes(CAPACITY, 1, 4);
        // The row's last change is forgotten: only the clock itself is left.
        u.clock(2);
        u.oldest(3, 2);
        u.read(2, 3, 2, 2);
        u.read(2, 3, 1, TOO_OLD);
        u.commit(1, 3);
        u.oldest(3, 2);
        u.oldest(4, 0);
        u.changeTimes(1, 1, 4);
        u.oldest(4, 3);
        u.read(2, 4, 2, TOO_OLD);
        u.read(2, 4, 3, 24);
    }

    private static void oldestOfAValueLikeTooOld() {
        CheckedReader u = CheckedReader.about("12: would not give TOO_OLD");
        u.change(0, 0, TOO_OLD, OK);
        u.commit(0, 1);
        u.read(1, 0, 1, TOO_OLD);
        u.oldest(0, 0);
        u.change(0, 0, 7, OK);
        u.commit(0, 2);
        u.changeTimes(CAPACITY - 2, 1, 4);
        u.changeTimes(1, 1, 4);
        // At moment 1 the row's value is like TOO_OLD still, and is no reason for a greater answer.
        u.read(2, 0, 1, TOO_OLD);
        u.oldest(0, 1);
        u.changeTimes(1, 1, 4);
        u.oldest(0, 2);
    }

    private static void oldestBad() {
        CheckedReader u = CheckedReader.about("12: BAD when r is not 0 .. 7");
        for (int r : NO_ROWS) {
            u.oldest(r, BAD);
        }
        for (int r = 0; r < 8; r++) {
            u.change(0, r, 1, OK);
        }
        u.commit(0, 1);
        u.changeTimes(CAPACITY, 1, 0);
        for (int r : NO_ROWS) {
            u.oldest(r, BAD);
        }
        for (int r = 0; r < 8; r++) {
            u.oldest(r, 1);
        }
    }

    private static void changedSinceAnswer() {
        CheckedReader u = CheckedReader.about("13: and different ones: bit r for row r");
        u.changedSince(0, 0);
        u.change(0, 0, 5, OK);
        u.change(0, 7, 5, OK);
        u.commit(0, 1);
        u.change(0, 0, 6, OK);
        u.change(0, 1, 0, OK);
        u.commit(0, 2);
        u.change(0, 0, 5, OK);
        u.commit(0, 3);
        u.changedSince(0, 129);
        // Row 0 was changed and changed back.
        u.changedSince(1, 0);
        u.changedSince(2, 1);
        u.changedSince(3, 0);
    }

    private static void changedSinceAllRows() {
        CheckedReader u = CheckedReader.about("13: bit r for row r");
        int rows = 0;
        for (int r = 7; r >= 0; r--) {
            u.change(r % 4, r, MIN + r, OK);
            u.commit(r % 4, 8 - r);
            rows |= 1 << r;
            u.changedSince(0, rows);
            u.changedSince(7 - r, 1 << r);
            u.changedSince(8 - r, 0);
        }
        u.changedSince(0, 255);
    }

    private static void changedSinceLongRun() {
        CheckedReader u = CheckedReader.about("13: The rows whose reads at moment s and at the clock");
        for (int i = 1; i <= 80; i++) {
            u.change(i % 4, i % 8, i, OK);
            u.commit(i % 4, i);
        }
        // The changes 57 to 80 are remembered, three of each row.
        u.changedSince(80, 0);
        u.changedSince(79, 1);
        u.changedSince(78, 129);
        u.changedSince(72, 255);
        u.changedSince(56, 255);
        u.changedSince(55, 254);
        u.changedSince(49, 2);
        u.changedSince(48, 0);
        u.changedSince(0, 0);
        u.changedSince(81, 0);
    }

    private static void changedSinceLeavesOutOpen() {
        CheckedReader u = CheckedReader.about("13: by a session that has changed nothing");
        u.change(0, 0, 5, OK);
        u.commit(0, 1);
        for (int r = 0; r < 8; r++) {
            u.change(r % 4, r, 40 + r, OK);
        }
        u.changedSince(0, 1);
        u.changedSince(1, 0);
        u.change(0, 0, 0, OK);
        u.changedSince(0, 1);
        u.commit(3, 2);
        u.changedSince(0, 137);
        u.changedSince(1, 136);
        u.rollback(0, OK);
        u.changedSince(0, 137);
    }

    private static void changedSinceBothGiveValues() {
        CheckedReader u = CheckedReader.about("13: The rows whose reads at moment s and at the clock, "
            + "by a session that has changed nothing, both give values");
        u.change(0, 3, 5, OK);
        u.change(0, 4, 5, OK);
        u.commit(0, 1);
        u.change(0, 3, 6, OK);
        u.commit(0, 2);
        u.changeTimes(CAPACITY - 3, 1, 6);
        u.changedSince(0, 24);
        u.changeTimes(1, 1, 6);
        u.changedSince(0, 16);
        u.changedSince(1, 8);
        u.changeTimes(1, 1, 6);
        u.changedSince(0, 0);
        u.changedSince(1, 8);
        u.changeTimes(1, 1, 6);
        u.changedSince(1, 0);
        u.commit(1, 3);
        u.changedSince(0, 64);
        u.changedSince(2, 64);
        u.changedSince(3, 0);
    }

    private static void changedSinceValueLikeTooOld() {
        CheckedReader u = CheckedReader.about("13: both give values");
        u.change(0, 4, TOO_OLD, OK);
        u.commit(0, 1);
        u.changedSince(0, 16);
        u.change(0, 4, TOO_OLD, OK);
        u.change(0, 5, TOO_OLD, OK);
        u.commit(0, 2);
        u.changedSince(0, 48);
        u.changedSince(1, 32);
        u.change(2, 4, 0, OK);
        u.commit(2, 3);
        u.changedSince(2, 16);
        u.changedSince(0, 32);
    }

    private static void changedSinceNoMoment() {
        CheckedReader u = CheckedReader.about("13: 0 when s is not from 0 to the clock");
        u.changedSince(1, 0);
        u.changedSince(-1, 0);
        u.change(0, 0, 5, OK);
        u.change(1, 7, 5, OK);
        u.commit(0, 1);
        for (int s : new int[] {MIN, -256, -1, 2, 256, 65536, MAX}) {
            u.changedSince(s, 0);
        }
        u.changedSince(0, 1);
        u.changedSince(1, 0);
    }

    private static void ownReadNeverTooOld() {
        CheckedReader u = CheckedReader.about("14: A read by the session whose open transaction has changed the row "
            + "gives the value as it is now, and never TOO_OLD.");
        u.change(0, 1, 10, OK);
        u.commit(0, 1);
        u.change(1, 1, 20, OK);
        u.changeTimes(CAPACITY - 2, 2, 7);
        u.change(1, 2, 21, OK);
        u.read(0, 1, 0, TOO_OLD);
        u.read(2, 1, 0, TOO_OLD);
        u.read(3, 1, 0, TOO_OLD);
        u.read(1, 1, 0, 20);
        u.read(1, 1, 1, 20);
        u.read(0, 1, 1, 10);
        u.read(1, 2, 0, 21);
        u.rollback(2, OK);
        u.change(1, 1, 22, OK);
        u.read(1, 1, 0, 22);
    }

    private static void ownReadEndsWithTheTransaction() {
        CheckedReader u = CheckedReader.about("14: A read by the session whose open transaction has changed the row");
        u.change(0, 1, 10, OK);
        u.change(0, 2, 11, OK);
        u.commit(0, 1);
        u.change(1, 1, 20, OK);
        u.change(2, 2, 30, OK);
        u.changeTimes(CAPACITY - 2, 3, 7);
        u.read(1, 1, 0, 20);
        u.read(2, 2, 0, 30);
        // Each of the two has changed the other row not at all.
        u.read(1, 2, 0, TOO_OLD);
        u.read(2, 1, 0, TOO_OLD);
        u.commit(1, 2);
        u.rollback(2, OK);
        u.read(1, 1, 0, TOO_OLD);
        u.read(1, 1, 1, 10);
        u.read(1, 1, 2, 20);
        u.read(2, 2, 0, TOO_OLD);
        u.read(2, 2, 1, 11);
        // A committed change is the session's own no longer, though it opens a new transaction.
        u.change(1, 5, 40, OK);
        u.read(1, 1, 1, 10);
    }

    private static void askingChangesNothing() {
        CheckedReader u = CheckedReader.about("Nothing is promised beyond the answers and state changes described above");
        u.change(0, 1, 10, OK);
        u.commit(0, 1);
        u.change(1, 1, 20, OK);
        u.changeTimes(CAPACITY - 1, 2, 7);
        String before = u.state();
        for (int i : new int[] {MIN, -1, 8, MAX}) {
            u.read(i, 0, 0, BAD);
            u.read(0, i, 0, BAD);
            u.read(0, 0, i, BAD);
            u.raw(i, 0);
            u.holder(i, NONE);
            u.locks(i, 0);
            u.changes(i, 0);
            u.oldest(i, BAD);
            u.changedSince(i, 0);
        }
        u.stillIs(before);
    }
}
