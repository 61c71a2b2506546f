/**
 * A test for each sentence of "What it is" and of "Terms" that names a boundary case: too small, too
 * large, empty, full, a wrap-around, a refused call.
 */
public final class TermsTest {
    private static final int OK = CheckedReader.OK;
    private static final int BAD = CheckedReader.BAD;
    private static final int LOCKED = CheckedReader.LOCKED;
    private static final int FULL = CheckedReader.FULL;
    private static final int NONE = CheckedReader.NONE;
    private static final int TOO_OLD = CheckedReader.TOO_OLD;
    private static final int CAPACITY = CheckedReader.CAPACITY;
    private static final int MIN = CheckedReader.MIN;
    private static final int MAX = CheckedReader.MAX;

    public static void main(String[] args) {
        callsOfAnObject();
        rowsOfAnObject();
        valuesOfARow();
        sessionsOfAnObject();
        oneTransactionOfASession();
        transactionOpensWithFirstChange();
        valueAtOnce();
        lockUntilTheEnd();
        numbersInOrder();
        clockIsLastNumber();
        nextNumberForAllChanges();
        eachChangeIsRemembered();
        atMost24();
        inTheOrderMade();
        orderGoesRound();
        oldestIsForgotten();
        oldestIsForgottenForItsOwnRow();
        oldestOpenRefuses();
        refusedUntilThereIsRoom();
        rollbackUndoes();
        rollbackUndoesAllThatFits();
        rolledBackIsNotRemembered();
        rolledBackLeavesTheRest();
        ownReadIsAsNow();
        readAtMoments();
        readLeavesOutOpen();
        readTooOld();
        readTooOldForAnyChange();
        CheckedReader.end();
    }

    private static void callsOfAnObject() {
        CheckedReader u = CheckedReader.about("An object is used for at most 512 calls after it has been made");
        for (int i = 1; i <= 256; i++) {
            u.change(i % 4, i % 8, i, OK);
            u.commit(i % 4, i);
        }
        u.callsMade(512);
        CheckedReader w = u.another();
        for (int i = 1; i <= 254; i++) {
            w.change(i % 4, 5, i, OK);
            w.commit(i % 4, i);
        }
        w.oldest(5, 230);
        w.read(0, 5, 229, TOO_OLD);
        w.read(0, 5, 230, 230);
        w.read(0, 5, 254, 254);
        w.callsMade(512);
        CheckedReader b = u.another();
        for (int i = 1; i <= 511; i++) {
            b.change(4, 8, i, BAD);
        }
        b.change(3, 7, 1, OK);
    }

    private static void rowsOfAnObject() {
        CheckedReader u = CheckedReader.about("There are rows 0 .. 7");
        u.change(0, -1, 5, BAD);
        u.change(0, 8, 5, BAD);
        for (int r = 0; r < 8; r++) {
            u.change(0, r, 10 + r, OK);
        }
        u.commit(0, 1);
        for (int r = 0; r < 8; r++) {
            u.raw(r, 10 + r);
            u.read(1, r, 1, 10 + r);
        }
        u.read(1, -1, 1, BAD);
        u.read(1, 8, 1, BAD);
    }

    private static void valuesOfARow() {
        CheckedReader u = CheckedReader.about("each with a value (an int, 0 at first)");
        int[] values = {0, MIN, MAX, BAD, LOCKED, FULL, NONE, TOO_OLD, TOO_OLD - 1, 32768, 1 << 16, 0};
        for (int s = 1; s < values.length; s++) {
            u.raw(6, values[s - 1]);
            u.change(2, 6, values[s], OK);
            u.raw(6, values[s]);
            u.read(2, 6, s - 1, values[s]);
            u.commit(2, s);
        }
        for (int s = 0; s < values.length; s++) {
            u.read(2, 6, s, values[s]);
        }
        u.change(2, 6, MAX, OK);
        u.rollback(2, OK);
        u.raw(6, 0);
    }

    private static void sessionsOfAnObject() {
        CheckedReader u = CheckedReader.about("and sessions 0 .. 3");
        u.change(-1, 0, 5, BAD);
        u.change(4, 0, 5, BAD);
        for (int x = 0; x < 4; x++) {
            u.change(x, x, 20 + x, OK);
        }
        for (int x = 0; x < 4; x++) {
            u.holder(x, x);
            u.changes(x, 1);
            u.read(x, x, 0, 20 + x);
        }
        u.commit(-1, NONE);
        u.commit(4, NONE);
        u.commit(3, 1);
        u.rollback(0, OK);
        u.commit(2, 2);
        u.rollback(1, OK);
    }

    private static void oneTransactionOfASession() {
        CheckedReader u = CheckedReader.about("A session has at most one open TRANSACTION");
        u.change(1, 0, 5, OK);
        u.change(1, 7, 6, OK);
        u.commit(1, 1);
        u.commit(1, NONE);
        u.rollback(1, NONE);
        u.change(1, 0, 7, OK);
        u.change(1, 7, 8, OK);
        u.rollback(1, OK);
        u.rollback(1, NONE);
        u.commit(1, NONE);
        u.raw(0, 5);
        u.raw(7, 6);
        u.clock(1);
    }

    private static void transactionOpensWithFirstChange() {
        CheckedReader u = CheckedReader.about("it opens with the session's first change");
        u.commit(0, NONE);
        u.rollback(0, NONE);
        u.read(0, 0, 0, 0);
        u.commit(0, NONE);
        u.change(0, 8, 1, BAD);
        u.commit(0, NONE);
        u.change(1, 3, 1, OK);
        u.change(0, 3, 1, LOCKED);
        u.commit(0, NONE);
        u.changeTimes(CAPACITY - 1, 1, 3);
        u.change(0, 4, 1, FULL);
        u.commit(0, NONE);
        u.rollback(0, NONE);
        u.commit(1, 1);
        u.change(0, 4, 0, OK);
        u.commit(0, 2);
        u.commit(0, NONE);
        u.change(0, 4, 0, OK);
        u.rollback(0, OK);
        u.change(0, 4, 0, OK);
        u.commit(0, 3);
    }

    private static void valueAtOnce() {
        CheckedReader u = CheckedReader.about("A change gives a row a new value at once");
        u.change(0, 2, 5, OK);
        u.raw(2, 5);
        u.change(0, 2, -5, OK);
        u.raw(2, -5);
        u.change(1, 2, 9, LOCKED);
        u.raw(2, -5);
        u.commit(0, 1);
        u.raw(2, -5);
    }

    private static void lockUntilTheEnd() {
        CheckedReader u = CheckedReader.about("the row is LOCKED by the transaction until that ends");
        // A change to the value that the row has already is a change too, and locks.
        u.change(0, 2, 0, OK);
        u.change(0, 5, 1, OK);
        u.change(1, 2, 9, LOCKED);
        u.change(1, 6, 9, OK);
        u.commit(1, 1);
        u.change(2, 6, 9, OK);
        u.rollback(2, OK);
        u.holder(2, 0);
        u.change(1, 2, 9, LOCKED);
        u.commit(0, 2);
        u.holder(2, NONE);
        u.holder(5, NONE);
        u.change(1, 2, 9, OK);
        u.change(0, 2, 8, LOCKED);
        u.change(0, 5, 8, OK);
        u.rollback(1, OK);
        u.holder(2, NONE);
        u.holder(5, 0);
        u.change(3, 2, 7, OK);
        u.holder(2, 3);
    }

    private static void numbersInOrder() {
        CheckedReader u = CheckedReader.about("COMMITS are numbered 1, 2, .. in the order in which they happen");
        for (int x = 0; x < 4; x++) {
            u.change(x, x, 10 + x, OK);
        }
        u.commit(2, 1);
        u.commit(0, 2);
        u.commit(0, NONE);
        u.rollback(1, OK);
        u.change(2, 7, 1, OK);
        u.commit(3, 3);
        u.commit(2, 4);
        u.read(0, 2, 1, 12);
        u.read(0, 0, 1, 0);
        u.read(0, 0, 2, 10);
        u.read(0, 3, 2, 0);
        u.read(0, 3, 3, 13);
        u.read(0, 7, 3, 0);
        u.read(0, 7, 4, 1);
    }

    private static void clockIsLastNumber() {
        CheckedReader u = CheckedReader.about("the CLOCK is the number of the last one (0 at first)");
        u.clock(0);
        u.commit(0, NONE);
        u.clock(0);
        u.change(0, 0, 1, OK);
        u.clock(0);
        u.rollback(0, OK);
        u.clock(0);
        // Past 127, where a byte would end.
        for (int i = 1; i <= 130; i++) {
            u.change(i % 4, i % 8, i, OK);
            u.commit(i % 4, i);
            u.clock(i);
        }
    }

    private static void nextNumberForAllChanges() {
        CheckedReader u = CheckedReader.about(
            "A transaction that commits gets the next number; all its changes have that number then.");
        u.change(0, 0, 10, OK);
        u.change(1, 1, 11, OK);
        u.commit(1, 1);
        u.change(0, 2, 12, OK);
        u.change(0, 0, 13, OK);
        u.commit(0, 2);
        u.read(3, 0, 1, 0);
        u.read(3, 2, 1, 0);
        u.read(3, 0, 2, 13);
        u.read(3, 2, 2, 12);
        u.changedSince(1, 5);
        u.changedSince(0, 7);
        u.changeTimes(CAPACITY - 3, 3, 7);
        // The change of row 0 that was made before commit 1 has number 2 like the rest.
        u.oldest(0, 2);
        u.oldest(1, 0);
        u.changeTimes(1, 3, 7);
        u.oldest(1, 1);
        u.changeTimes(1, 3, 7);
        u.oldest(2, 2);
    }

    private static void eachChangeIsRemembered() {
        CheckedReader u = CheckedReader.about(
            "Each change is REMEMBERED: the row, and the value that the row had before it.");
        u.change(0, 3, 5, OK);
        u.remembered(1);
        u.change(0, 3, 5, OK);
        u.remembered(2);
        u.change(0, 4, 0, OK);
        u.remembered(3);
        u.commit(0, 1);
        u.remembered(3);
        u.change(1, 3, 6, OK);
        u.change(1, 3, 7, OK);
        u.remembered(5);
        u.commit(1, 2);
        u.read(2, 3, 0, 0);
        u.read(2, 3, 1, 5);
        u.read(2, 3, 2, 7);
        u.change(1, 8, 9, BAD);
        u.change(2, 3, 8, OK);
        u.change(1, 3, 9, LOCKED);
        u.remembered(6);
    }

    private static void atMost24() {
        CheckedReader u = CheckedReader.about("At most 24 changes are remembered");
        u.changeTimes(CAPACITY - 1, 0, 1);
        u.remembered(23);
        u.commit(0, 1);
        u.changeTimes(1, 1, 2);
        u.remembered(24);
        u.oldest(1, 0);
        u.read(3, 1, 0, 0);
        u.changeTimes(1, 1, 2);
        u.remembered(24);
        u.oldest(1, 1);
        u.read(3, 1, 0, TOO_OLD);
        u.changeTimes(22, 1, 2);
        u.remembered(24);
        u.changes(1, 24);
        u.change(1, 2, 9, FULL);
        u.remembered(24);
    }

    private static void inTheOrderMade() {
        CheckedReader u = CheckedReader.about("in the order in which they were made");
        u.change(0, 0, 10, OK);
        u.change(1, 1, 11, OK);
        u.change(2, 2, 12, OK);
        u.change(1, 3, 13, OK);
        u.commit(2, 1);
        u.commit(1, 2);
        u.commit(0, 3);
        u.changeTimes(CAPACITY - 4, 3, 7);
        int[] numbers = {3, 2, 1, 2};
        for (int r = 0; r < 4; r++) {
            u.oldest(r, 0);
            u.changeTimes(1, 3, 7);
            u.oldest(r, numbers[r]);
        }
    }

    private static void orderGoesRound() {
        CheckedReader u = CheckedReader.about("in the order in which they were made");
        for (int i = 1; i <= 80; i++) {
            u.change(i % 4, i % 8, i, OK);
            u.commit(i % 4, i);
            if (i > CAPACITY) {
                int forgotten = i - CAPACITY;
                u.oldest(forgotten % 8, forgotten);
                u.read(0, forgotten % 8, forgotten - 1, TOO_OLD);
                u.read(0, forgotten % 8, forgotten, forgotten);
            }
        }
        u.remembered(CAPACITY);
    }

    private static void oldestIsForgotten() {
        CheckedReader u = CheckedReader.about("When a change is made and 24 are remembered already, "
            + "the oldest of these is forgotten, if its transaction has committed");
        u.change(0, 0, 10, OK);
        u.commit(0, 1);
        u.change(1, 1, 11, OK);
        u.commit(1, 2);
        u.changeTimes(CAPACITY - 3, 2, 2);
        u.oldest(0, 0);
        u.change(2, 2, 50, OK);
        u.oldest(0, 0);
        u.read(3, 0, 0, 0);
        // The newer changes are open: only the oldest one's transaction counts.
        u.change(3, 3, 51, OK);
        u.oldest(0, 1);
        u.oldest(1, 0);
        u.remembered(24);
        u.read(2, 0, 0, TOO_OLD);
        u.read(2, 1, 0, 0);
        u.change(3, 3, 52, OK);
        u.oldest(1, 2);
        u.oldest(2, 0);
        u.remembered(24);
        u.raw(0, 10);
        u.raw(1, 11);
    }

    private static void oldestIsForgottenForItsOwnRow() {
        CheckedReader u = CheckedReader.about("the oldest of these is forgotten");
        for (int s = 1; s <= CAPACITY; s++) {
            u.change(0, 4, 10 * s, OK);
            u.commit(0, s);
        }
        u.read(1, 4, 0, 0);
        u.change(0, 4, 999, OK);
        u.remembered(24);
        u.read(1, 4, 0, TOO_OLD);
        u.read(1, 4, 1, 10);
        u.read(1, 4, 24, 240);
        u.read(0, 4, 24, 999);
        u.rollback(0, OK);
        u.remembered(23);
        u.raw(4, 240);
        u.read(1, 4, 0, TOO_OLD);
        u.change(0, 4, 250, OK);
        u.remembered(24);
        u.read(1, 4, 1, 10);
        u.change(0, 4, 251, OK);
        u.read(1, 4, 1, TOO_OLD);
        u.read(1, 4, 2, 20);
    }

    private static void oldestOpenRefuses() {
        CheckedReader u = CheckedReader.about("if that is still open, the new change is refused");
        u.change(2, 7, 1, OK);
        u.changeTimes(CAPACITY - 2, 0, 0);
        u.change(1, 1, 5, OK);
        u.change(0, 0, 9, FULL);
        u.change(2, 7, 9, FULL);
        u.change(3, 6, 9, FULL);
        u.commit(0, 1);
        u.commit(1, 2);
        // All but the oldest have committed, and still none is forgotten in its stead.
        u.change(3, 6, 9, FULL);
        u.change(2, 7, 9, FULL);
        u.oldest(0, 0);
        u.oldest(1, 0);
        u.raw(6, 0);
        u.raw(7, 1);
        u.remembered(24);
        CheckedReader w = u.another();
        w.change(0, 3, 1, OK);
        w.commit(0, 1);
        w.changeTimes(CAPACITY, 0, 2);
        w.oldest(3, 1);
        // The session's own earlier commit does not help: its new transaction is open.
        w.change(0, 2, 8, FULL);
        w.raw(2, CAPACITY);
    }

    private static void refusedUntilThereIsRoom() {
        CheckedReader u = CheckedReader.about("if that is still open, the new change is refused");
        u.change(2, 7, 1, OK);
        u.changeTimes(CAPACITY - 2, 0, 0);
        u.change(1, 1, 5, OK);
        u.change(3, 6, 9, FULL);
        u.rollback(1, OK);
        u.change(3, 6, 9, OK);
        u.change(3, 6, 10, FULL);
        u.raw(6, 9);
        u.commit(2, 1);
        u.change(3, 6, 10, OK);
        u.oldest(7, 1);
        u.change(3, 6, 11, FULL);
        u.rollback(0, OK);
        u.remembered(2);
        u.changeTimes(22, 3, 5);
        u.change(3, 5, 99, FULL);
    }

    private static void rollbackUndoes() {
        CheckedReader u = CheckedReader.about("When a transaction is rolled back, its changes are undone: "
            + "every row that it changed gets back the value it had before the first of them");
        u.change(0, 5, MIN, OK);
        u.commit(0, 1);
        u.change(1, 5, 11, OK);
        u.change(2, 4, 15, OK);
        u.change(1, 5, 12, OK);
        u.change(1, 6, 13, OK);
        u.change(1, 5, 11, OK);
        u.change(1, 6, 14, OK);
        u.rollback(1, OK);
        u.raw(5, MIN);
        u.raw(6, 0);
        u.raw(4, 15);
        u.read(1, 5, 1, MIN);
        u.read(1, 5, 0, 0);
        u.clock(1);
        u.change(1, 5, 30, OK);
        u.rollback(1, OK);
        u.raw(5, MIN);
    }

    private static void rollbackUndoesAllThatFits() {
        CheckedReader u = CheckedReader.about("every row that it changed gets back the value it had before the first of them");
        for (int r = 0; r < 8; r++) {
            u.change(0, r, 100 + r, OK);
        }
        u.commit(0, 1);
        for (int i = 0; i < CAPACITY; i++) {
            u.change(3, i % 8, i, OK);
        }
        u.change(3, 0, 77, FULL);
        u.rollback(3, OK);
        for (int r = 0; r < 8; r++) {
            u.raw(r, 100 + r);
            u.holder(r, NONE);
            // What was forgotten to make room for them stays forgotten.
            u.oldest(r, 1);
        }
    }

    private static void rolledBackIsNotRemembered() {
        CheckedReader u = CheckedReader.about("and its changes are remembered no more");
        u.changeTimes(CAPACITY, 1, 3);
        u.rollback(1, OK);
        u.remembered(0);
        u.changes(1, 0);
        u.oldest(3, 0);
        u.read(1, 3, 0, 0);
        u.changeTimes(CAPACITY, 2, 4);
        u.remembered(24);
        u.commit(2, 1);
        // 24 are remembered and committed: only one goes for each new change.
        u.change(1, 3, 5, OK);
        u.rollback(1, OK);
        u.remembered(23);
        u.change(1, 3, 6, OK);
        u.commit(1, 2);
        u.remembered(24);
        u.read(0, 3, 1, 0);
        u.read(0, 3, 2, 6);
        u.read(0, 4, 1, 24);
        u.read(0, 4, 0, TOO_OLD);
    }

    private static void rolledBackLeavesTheRest() {
        CheckedReader u = CheckedReader.about("and its changes are remembered no more");
        u.change(0, 0, 1, OK);
        u.change(1, 1, 2, OK);
        u.change(0, 2, 3, OK);
        u.change(2, 3, 4, OK);
        u.commit(2, 1);
        u.change(0, 0, 5, OK);
        u.change(1, 4, 6, OK);
        u.rollback(0, OK);
        u.remembered(3);
        u.raw(1, 2);
        u.raw(3, 4);
        u.raw(4, 6);
        u.changes(1, 2);
        u.locks(1, 18);
        u.read(0, 3, 0, 0);
        u.changeTimes(CAPACITY - 3, 3, 6);
        // The oldest left is open, the next one has committed.
        u.change(3, 6, 0, FULL);
        u.rollback(1, OK);
        u.raw(1, 0);
        u.raw(4, 0);
        u.changeTimes(2, 3, 6);
        u.oldest(3, 0);
        u.change(3, 6, 0, OK);
        u.oldest(3, 1);
        u.commit(3, 2);
        u.read(0, 6, 1, 0);
    }

    private static void ownReadIsAsNow() {
        CheckedReader u = CheckedReader.about("A READ of row r AT MOMENT s (0 <= s <= the clock) by session x gives: "
            + "when x has changed r in its open transaction, the row's value as it is now");
        u.change(0, 1, 10, OK);
        u.read(0, 1, 0, 10);
        u.commit(0, 1);
        u.read(0, 1, 0, 0);
        u.change(0, 2, 20, OK);
        // The transaction is open, but row 1 is not among what it changed.
        u.read(0, 1, 0, 0);
        u.change(1, 1, 11, OK);
        u.change(1, 1, 12, OK);
        u.commit(0, 2);
        for (int s = 0; s <= 2; s++) {
            u.read(1, 1, s, 12);
        }
        u.change(0, 1, 99, LOCKED);
        u.read(0, 1, 2, 10);
        u.rollback(1, OK);
        u.read(1, 1, 0, 0);
        u.read(1, 1, 2, 10);
        u.change(1, 1, 10, OK);
        u.read(1, 1, 0, 10);
    }

    private static void readAtMoments() {
        CheckedReader u = CheckedReader.about("otherwise the value that r had right after commit number s (at first: 0)");
        int[] values = {0, 10, -7, -7, 10, MAX, MIN};
        for (int s = 1; s < values.length; s++) {
            u.change(s % 4, 2, 77, OK);
            u.change(s % 4, s == 3 ? 1 : 2, values[s], OK);
            u.change(s % 4, 2, values[s], OK);
            u.commit(s % 4, s);
        }
        for (int s = 0; s < values.length; s++) {
            for (int x = 0; x < 4; x++) {
                u.read(x, 2, s, values[s]);
                u.read(x, 1, s, s < 3 ? 0 : -7);
                u.read(x, 3, s, 0);
            }
        }
    }

    private static void readLeavesOutOpen() {
        CheckedReader u = CheckedReader.about("changes of open transactions left out");
        u.change(1, 2, 6, OK);
        u.read(0, 2, 0, 0);
        u.commit(1, 1);
        u.change(1, 2, 7, OK);
        u.change(1, 2, 8, OK);
        u.change(2, 3, 9, OK);
        for (int x = 0; x < 4; x += 3) {
            u.read(x, 2, 0, 0);
            u.read(x, 2, 1, 6);
            u.read(x, 3, 1, 0);
        }
        // A session with an open transaction of its own does not see another's either.
        u.read(2, 2, 1, 6);
        u.read(1, 3, 1, 0);
        u.commit(2, 2);
        u.read(0, 2, 2, 6);
        u.read(1, 3, 2, 9);
        u.commit(1, 3);
        u.read(0, 2, 2, 6);
        u.read(0, 2, 3, 8);
    }

    private static void readTooOld() {
        CheckedReader u = CheckedReader.about(
            "It gives TOO_OLD instead when a change of row r with a number above s has been forgotten.");
        u.change(0, 1, 10, OK);
        u.change(0, 1, 11, OK);
        u.commit(0, 1);
        u.change(0, 1, 12, OK);
        u.commit(0, 2);
        u.changeTimes(CAPACITY - 3, 3, 7);
        u.read(2, 1, 0, 0);
        // One of the two changes of number 1.
        u.changeTimes(1, 3, 7);
        u.read(2, 1, 0, TOO_OLD);
        u.read(2, 1, 1, 11);
        u.read(2, 2, 0, 0);
        u.changeTimes(1, 3, 7);
        u.read(2, 1, 0, TOO_OLD);
        u.read(2, 1, 1, 11);
        u.changeTimes(1, 3, 7);
        u.read(2, 1, 0, TOO_OLD);
        u.read(2, 1, 1, TOO_OLD);
        u.read(2, 1, 2, 12);
        u.rollback(3, OK);
        u.read(2, 1, 1, TOO_OLD);
        u.read(2, 1, 2, 12);
    }

    private static void readTooOldForAnyChange() {
        CheckedReader u = CheckedReader.about(
            "a change of row r with a number above s has been forgotten");
        u.change(0, 1, 0, OK);
        u.change(0, 2, 5, OK);
        u.commit(0, 1);
        u.change(0, 2, 0, OK);
        u.commit(0, 2);
        u.changeTimes(CAPACITY - 3, 3, 7);
        u.changeTimes(3, 3, 7);
        u.read(2, 1, 0, TOO_OLD);
        u.read(2, 1, 1, 0);
        u.read(2, 2, 0, TOO_OLD);
        u.read(2, 2, 1, TOO_OLD);
        u.read(2, 2, 2, 0);
        // An open change of the row does not bring back what is forgotten, nor does it hide the rest.
        u.rollback(3, OK);
        u.change(1, 2, 8, OK);
        u.read(2, 2, 1, TOO_OLD);
        u.read(2, 2, 2, 0);
    }
}
