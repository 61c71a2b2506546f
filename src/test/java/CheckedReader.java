/**
 * An UndoReader under test for one sentence of the document. Each call is given the answer that is due
 * as its last argument; a wrong answer is printed with the sentence.
 */
final class CheckedReader {
    static final int OK = 0;
    static final int BAD = -1;
    static final int LOCKED = -2;
    static final int FULL = -3;
    static final int NONE = -4;
    static final int TOO_OLD = -2000000000;
    static final int CAPACITY = 24;
    static final int MIN = Integer.MIN_VALUE;
    static final int MAX = Integer.MAX_VALUE;
    // 32 and more, and what is far below 0, would come back into range if they were cut to their low bits.
    static final int[] NO_SESSIONS = {MIN, -256, -32, -4, -1, 4, 5, 7, 32, 256, 65536, MAX};
    static final int[] NO_ROWS = {MIN, -256, -32, -8, -1, 8, 9, 24, 32, 256, 65536, MAX};

    private static final int CALLS = 512;

    private static int tests = 0;
    private static int wrong = 0;

    private final String sentence;
    private final UndoReader reader = new UndoReader();
    private int calls = 0;

    private CheckedReader(String sentence) {
        this.sentence = sentence;
    }

    static CheckedReader about(String sentence) {
        tests++;
        return new CheckedReader(sentence);
    }

    /** A new object for the same sentence. */
    CheckedReader another() {
        return new CheckedReader(sentence);
    }

    static void end() {
        System.out.println(wrong == 0
            ? "all answers are as due, in " + tests + " tests" : wrong + " answers are not as due");
        if (wrong != 0) {
            System.exit(1);
        }
    }

    void change(int x, int r, int v, int due) {
        due("change(" + x + ", " + r + ", " + v + ")", reader.change(x, r, v), due);
    }

    void commit(int x, int due) {
        due("commit(" + x + ")", reader.commit(x), due);
    }

    void rollback(int x, int due) {
        due("rollback(" + x + ")", reader.rollback(x), due);
    }

    void clock(int due) {
        due("clock()", reader.clock(), due);
    }

    void read(int x, int r, int s, int due) {
        due("read(" + x + ", " + r + ", " + s + ")", reader.read(x, r, s), due);
    }

    void raw(int r, int due) {
        due("raw(" + r + ")", reader.raw(r), due);
    }

    void holder(int r, int due) {
        due("holder(" + r + ")", reader.holder(r), due);
    }

    void locks(int x, int due) {
        due("locks(" + x + ")", reader.locks(x), due);
    }

    void remembered(int due) {
        due("remembered()", reader.remembered(), due);
    }

    void changes(int x, int due) {
        due("changes(" + x + ")", reader.changes(x), due);
    }

    void oldest(int r, int due) {
        due("oldest(" + r + ")", reader.oldest(r), due);
    }

    void changedSince(int s, int due) {
        due("changedSince(" + s + ")", reader.changedSince(s), due);
    }

    /** Changes of row r by session x, to the values 1, 2, .. times; all of them are due to be OK. */
    void changeTimes(int times, int x, int r) {
        for (int v = 1; v <= times; v++) {
            change(x, r, v, OK);
        }
    }

    /** All that can be asked without changing anything, so that the states before and after a call can be compared. */
    String state() {
        int clock = reader.clock();
        count(34 + 33 * (clock + 1));
        StringBuilder text = new StringBuilder();
        text.append("clock ").append(clock).append(" remembered ").append(reader.remembered());
        for (int x = 0; x < 4; x++) {
            text.append(" session ").append(reader.locks(x)).append(',').append(reader.changes(x));
        }
        for (int r = 0; r < 8; r++) {
            text.append(" row ").append(reader.raw(r)).append(',').append(reader.holder(r))
                .append(',').append(reader.oldest(r));
        }
        for (int s = 0; s <= clock; s++) {
            text.append(" moment ").append(reader.changedSince(s));
            for (int i = 0; i < 32; i++) {
                text.append(',').append(reader.read(i / 8, i % 8, s));
            }
        }
        return text.toString();
    }

    void stillIs(String before) {
        String now = state();
        if (!now.equals(before)) {
            fault("the state was changed from\n  " + before + "\nto\n  " + now);
        }
    }

    void callsMade(int due) {
        if (calls != due) {
            fault("the test made " + calls + " calls, not " + due);
        }
    }

    private void due(String call, int got, int due) {
        count(1);
        if (got != due) {
            fault("call " + calls + ", " + call + ", answered " + got + ", due is " + due);
        }
    }

    /** Nothing is promised after the 512th call, so a test that needs more would prove nothing. */
    private void count(int more) {
        calls += more;
        if (calls > CALLS) {
            fault("the test makes more than " + CALLS + " calls on one object");
        }
    }

    private void fault(String what) {
        wrong++;
        System.out.println("\"" + sentence + "\": " + what);
    }
}
