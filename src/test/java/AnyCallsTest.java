/**
 * No call throws or fails to end, for any arguments in any state, and not after the 512th call either:
 * rule 7 of LANGUAGE.md, which has no answers to compare.
 */
public final class AnyCallsTest {
    private static final int CALLS = 200000;
    private static final int[] ARGUMENTS = {
        Integer.MIN_VALUE, -2000000000, -65536, -33, -25, -24, -9, -8, -5, -4, -1, 0, 1, 2, 3, 4, 5, 6, 7, 8,
        9, 23, 24, 25, 31, 32, 33, 65536, Integer.MAX_VALUE};

    private static long seed = 5L;

    public static void main(String[] args) {
        UndoReader open = new UndoReader();
        UndoReader mixed = new UndoReader();
        for (int i = 0; i < 24; i++) {
            open.change(i % 4, i % 4, i);
        }
        for (int i = 0; i < CALLS; i++) {
            // Nothing ends in the first object, so it stays full of open changes.
            call(open, 4 + next(10));
            call(mixed, next(14));
        }
        System.out.println("all calls have ended");
    }

    private static int next(int bound) {
        seed = seed * 6364136223846793005L + 1442695040888963407L;
        return (int) ((seed >>> 33) % bound);
    }

    private static int argument() {
        return ARGUMENTS[next(ARGUMENTS.length)];
    }

    private static void call(UndoReader u, int method) {
        int x = argument();
        int r = argument();
        int s = argument();
        switch (method) {
            case 0, 1 -> u.commit(x);
            case 2, 3 -> u.rollback(x);
            case 4 -> u.clock();
            case 5 -> u.read(x, r, s);
            case 6 -> u.raw(r);
            case 7 -> u.holder(r);
            case 8 -> u.locks(x);
            case 9 -> u.remembered();
            case 10 -> u.changes(x);
            case 11 -> u.oldest(r);
            case 12 -> u.changedSince(s);
            default -> {
                u.change(x, r, s);
                u.change(x & 3, r & 7, s);
            }
        }
    }
}
