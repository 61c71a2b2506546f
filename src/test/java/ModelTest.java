import java.util.ArrayList;
import java.util.List;
import java.util.function.IntSupplier;

/**
 * Long mixed runs of calls, each answer compared with a model that holds its state otherwise: all rows
 * as they were at every moment, and every change ever made, with marks for the forgotten ones.
 */
public final class ModelTest {
    private static final int RUNS = 4000;
    private static final int CALLS = 512;

    private static int wrong = 0;
    private static int tooOldReads = 0;
    private static int fullChanges = 0;
    private static long seed = 20261115L;

    private static final class Change {
        final int session;
        final int row;
        int number = 0;
        boolean forgotten = false;

        Change(int session, int row) {
            this.session = session;
            this.row = row;
        }
    }

    private static final class Model {
        final List<int[]> moments = new ArrayList<>(List.of(new int[8]));
        final List<Change> made = new ArrayList<>();
        final int[] now = new int[8];
        final int[] lockedBy = {-4, -4, -4, -4, -4, -4, -4, -4};

        int clock() {
            return moments.size() - 1;
        }

        List<Change> rememberedChanges() {
            return made.stream().filter(c -> !c.forgotten).toList();
        }

        int change(int x, int r, int v) {
            if (x < 0 || x > 3 || r < 0 || r > 7) {
                return -1;
            }
            if (lockedBy[r] != -4 && lockedBy[r] != x) {
                return -2;
            }
            List<Change> remembered = rememberedChanges();
            if (remembered.size() == 24) {
                Change first = remembered.get(0);
                if (first.number == 0) {
                    return -3;
                }
                first.forgotten = true;
            }
            made.add(new Change(x, r));
            lockedBy[r] = x;
            now[r] = v;
            return 0;
        }

        int commit(int x) {
            if (changes(x) == 0) {
                return -4;
            }
            int[] next = moments.get(clock()).clone();
            for (int r = 0; r < 8; r++) {
                if (lockedBy[r] == x) {
                    next[r] = now[r];
                    lockedBy[r] = -4;
                }
            }
            moments.add(next);
            for (Change c : made) {
                if (c.session == x && c.number == 0) {
                    c.number = clock();
                }
            }
            return clock();
        }

        int rollback(int x) {
            if (changes(x) == 0) {
                return -4;
            }
            for (int r = 0; r < 8; r++) {
                if (lockedBy[r] == x) {
                    now[r] = moments.get(clock())[r];
                    lockedBy[r] = -4;
                }
            }
            made.removeIf(c -> c.session == x && c.number == 0);
            return 0;
        }

        boolean tooOld(int r, int s) {
            return made.stream().anyMatch(c -> c.row == r && c.forgotten && c.number > s);
        }

        int read(int x, int r, int s) {
            if (x < 0 || x > 3 || r < 0 || r > 7 || s < 0 || s > clock()) {
                return -1;
            }
            if (lockedBy[r] == x) {
                return now[r];
            }
            return tooOld(r, s) ? -2000000000 : moments.get(s)[r];
        }

        int raw(int r) {
            return r < 0 || r > 7 ? 0 : now[r];
        }

        int holder(int r) {
            return r < 0 || r > 7 ? -4 : lockedBy[r];
        }

        int locks(int x) {
            int rows = 0;
            for (int r = 0; r < 8 && x >= 0 && x <= 3; r++) {
                rows += lockedBy[r] == x ? 1 << r : 0;
            }
            return rows;
        }

        int changes(int x) {
            return (int) made.stream().filter(c -> c.session == x && c.number == 0).count();
        }

        int oldest(int r) {
            if (r < 0 || r > 7) {
                return -1;
            }
            int s = 0;
            while (tooOld(r, s)) {
                s++;
            }
            return s;
        }

        int changedSince(int s) {
            int rows = 0;
            for (int r = 0; r < 8 && s >= 0 && s <= clock(); r++) {
                boolean differs = moments.get(s)[r] != moments.get(clock())[r];
                rows += differs && !tooOld(r, s) ? 1 << r : 0;
            }
            return rows;
        }
    }

    public static void main(String[] args) {
        for (int run = 0; run < RUNS && wrong < 20; run++) {
            oneRun(run);
        }
        // Runs that never reach these answers would say nothing about them.
        if (tooOldReads == 0 || fullChanges == 0) {
            wrong++;
            System.out.println("the runs met " + tooOldReads + " reads too old and " + fullChanges + " full changes");
        }
        System.out.println(wrong == 0 ? "all answers are as the model's" : wrong + " answers are not as the model's");
        if (wrong != 0) {
            System.exit(1);
        }
    }

    /** A number from 0 to below bound, the same ones in every run of the test. */
    private static int next(int bound) {
        seed = seed * 6364136223846793005L + 1442695040888963407L;
        return (int) ((seed >>> 33) % bound);
    }

    /** Mostly a number from 0 to below bound; otherwise one just outside, far outside, or right but for its high bits. */
    private static int nextOrWrong(int bound) {
        int right = next(bound);
        if (next(40) != 0) {
            return right;
        }
        return switch (next(6)) {
            case 0 -> -1 - next(3);
            case 1 -> bound + next(3);
            case 2 -> Integer.MIN_VALUE + right;
            case 3 -> Integer.MAX_VALUE - right;
            case 4 -> right + (1 << (9 + next(22)));
            default -> right - (1 << (9 + next(22)));
        };
    }

    /** Few values, so that rows often get one back that they had, and some of all sizes. */
    private static int nextValue() {
        return switch (next(20)) {
            case 0 -> UndoReader.TOO_OLD;
            case 1 -> next(1 << 30) * 4 + next(4);
            default -> next(4) - 1;
        };
    }

    /** Runs differ in how often they end transactions and in how many rows and sessions they use. */
    private static void oneRun(int run) {
        UndoReader u = new UndoReader();
        Model m = new Model();
        int changeShare = 20 + next(50);
        int endShare = 2 + next(30);
        int commitShare = next(101);
        int rows = 1 + next(8);
        int sessions = 1 + next(4);
        for (int call = 0; call < CALLS; call++) {
            int x = nextOrWrong(sessions);
            int r = nextOrWrong(rows);
            int kind = next(100);
            if (kind < changeShare) {
                int v = nextValue();
                int want = m.change(x, r, v);
                fullChanges += want == UndoReader.FULL ? 1 : 0;
                due(run, call, "change(" + x + ", " + r + ", " + v + ")", () -> u.change(x, r, v), want);
            } else if (kind < changeShare + endShare && next(100) < commitShare) {
                due(run, call, "commit(" + x + ")", () -> u.commit(x), m.commit(x));
            } else if (kind < changeShare + endShare) {
                due(run, call, "rollback(" + x + ")", () -> u.rollback(x), m.rollback(x));
            } else {
                ask(run, call, u, m, x, r);
            }
        }
    }

    private static void ask(int run, int call, UndoReader u, Model m, int x, int r) {
        int s = nextOrWrong(m.clock() + 1);
        switch (next(9)) {
            case 0 -> due(run, call, "clock()", u::clock, m.clock());
            case 1 -> due(run, call, "raw(" + r + ")", () -> u.raw(r), m.raw(r));
            case 2 -> due(run, call, "holder(" + r + ")", () -> u.holder(r), m.holder(r));
            case 3 -> due(run, call, "locks(" + x + ")", () -> u.locks(x), m.locks(x));
            case 4 -> due(run, call, "remembered()", u::remembered, m.rememberedChanges().size());
            case 5 -> due(run, call, "changes(" + x + ")", () -> u.changes(x), m.changes(x));
            case 6 -> due(run, call, "oldest(" + r + ")", () -> u.oldest(r), m.oldest(r));
            case 7 -> due(run, call, "changedSince(" + s + ")", () -> u.changedSince(s), m.changedSince(s));
            default -> {
                int want = m.read(x, r, s);
                tooOldReads += want == UndoReader.TOO_OLD && m.tooOld(r, s) ? 1 : 0;
                due(run, call, "read(" + x + ", " + r + ", " + s + ")", () -> u.read(x, r, s), want);
            }
        }
    }

    private static void due(int run, int call, String text, IntSupplier got, int want) {
        int answer = got.getAsInt();
        if (answer != want) {
            wrong++;
            System.out.println("run " + run + ", call " + call + ": " + text + " answered " + answer + ", due is " + want);
        }
    }
}
