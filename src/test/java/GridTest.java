/** Each call with all numbers at the edges of what it takes, on LINES that are empty, full or between, against the model: the answer, and all that shows then. */
public final class GridTest {
    private static final int MIN = Integer.MIN_VALUE;
    private static final int MAX = Integer.MAX_VALUE;
    private static final int[] NONE = {0};
    private static final int[] LINES = {MIN, -1, 0, 1, 2, 3, 4, MAX};
    private static final int[] ENDS = {MIN, -1, 0, 1, 2, MAX};
    private static final int[] ITEMS = {MIN, -1, 0, 1, 2, 9999, 10000, MAX};
    private static final int[] PLACES = {MIN, -1, 0, 1, 2, 3, 4, 31, 32, 33, 62, 63, 64, 65, MAX};
    private static final int[] NUMBERS = {MIN, -1, 0, 1, 2, 9999, 10000, 63 * 32, MAX};
    private static final int[] TAKES = {MIN, -1, 0, 1, 2, 3, 11, 12, 13, 32, MAX};
    private static final int[] POWERS = {MIN, -1, 0, 1, 2, 3, 999999999, 1000000000, 1000000001, MAX};
    private static final int[] RULES = {MIN, -1, 0, 1, 2, 3, 4, 5, 6, 7, 8, MAX};
    private static final int[] WHATS = {MIN, -1, 0, 3, 4, 5, 6, 7, 8, 9, 10, 11, MAX};
    private static final int[] SIGNS = {MIN, -1, 0, MAX};
    private static final int[] LENGTHS = {MIN, -1, 0, 1, 97, 98, 99, 100, 101, MAX};
    private static final String[] TEXTS = {"", "f1B F", "01/10", " ".repeat(96), " ".repeat(97), "0".repeat(100)};
    private static final String TABLE = "000/011/012";

    /** By the numbers of Calls: what each call takes. */
    private static final int[][][] TAKEN = {
        {RULES, NONE, NONE}, {NONE, NONE, NONE}, {ITEMS, ITEMS, NONE}, {ITEMS, POWERS, NONE}, {ITEMS, NONE, NONE}, {ITEMS, NONE, NONE},
        {LINES, ENDS, ITEMS}, {LINES, ENDS, NONE}, {LINES, LINES, NONE}, {LINES, LINES, NONE}, {LINES, PLACES, LINES}, {LINES, NONE, NONE},
        {LINES, PLACES, ITEMS}, {LINES, PLACES, ITEMS}, {LINES, PLACES, NONE}, {LINES, ENDS, PLACES}, {LINES, NONE, NONE}, {LINES, NONE, NONE},
        {LINES, NONE, NONE}, {LINES, PLACES, NONE}, {LINES, PLACES, PLACES}, {LINES, PLACES, NONE}, {LINES, NUMBERS, NONE},
        {LINES, NUMBERS, NONE}, {LINES, PLACES, NONE}, {LINES, NUMBERS, PLACES}, {LINES, NONE, NONE}, {LINES, NONE, NONE},
        {LINES, LINES, NONE}, {NONE, NONE, NONE}, {LINES, ENDS, NONE}, {LINES, TAKES, NONE}, {WHATS, NONE, NONE}, {SIGNS, NONE, NONE},
        {LENGTHS, NONE, NONE}, {PLACES, NONE, NONE},
    };

    private EndSums x;
    private Model m;
    private int calls;
    private int mostCalls;
    private int asked;
    private int wrong;

    private long both(int what, int a, int b, int c) {
        calls++;
        long got = Calls.ofObject(x, what, a, b, c);
        due("call " + what + "(" + a + ", " + b + ", " + c + ")", got, Calls.ofModel(m, what, a, b, c));
        return got;
    }

    private void due(String what, long got, long want) {
        asked++;
        if (got != want) {
            wrong++;
            System.out.println(what + " answered " + got + ", due is " + want);
        }
    }

    private void text(String text) {
        both(Calls.END, 0, 0, 0);
        for (int i = 0; i < text.length(); i += 4) {
            int four = 0;
            for (int k = 0; k < 4; k++) {
                four = four << 8 | (i + k < text.length() ? text.charAt(i + k) : 0);
            }
            both(Calls.SIGN, four, 0, 0);
        }
        both(Calls.END, text.length(), 0, 0);
    }

    private void fill(int line, int front, int back) {
        for (int i = 0; i < front + back; i++) {
            both(6, line, i < front ? 0 : 1, i % 7 == 0 ? 9999 - i : i);
        }
    }

    /** LINE 0 lies so, LINE 1 is a COPY of it less one, LINE 2 has 64 or 3 ITEMS, LINE 3 is empty. */
    private void start(int front, int back, boolean full, int rule, String text) {
        x = new EndSums();
        m = new Model();
        calls = 0;
        text(TABLE);
        both(1, 0, 0, 0);
        both(0, rule, 0, 0);
        fill(0, front, back);
        both(8, 0, 1, 0);
        both(7, 1, 1, 0);
        fill(2, full ? 40 : 1, full ? 24 : 2);
        text(text);
        both(18, 0, 0, 0);
    }

    private void all(int front, int back, boolean full, int rule, String text) {
        for (int what = 0; what < TAKEN.length; what++) {
            for (int a : TAKEN[what][0]) {
                for (int b : TAKEN[what][1]) {
                    for (int c : TAKEN[what][2]) {
                        start(front, back, full, rule, text);
                        both(what, a, b, c);
                        compare();
                        mostCalls = Math.max(mostCalls, calls);
                    }
                }
            }
        }
    }

    private void compare() {
        compareRow();
        for (int what = 0; what <= 10; what++) {
            both(32, what, 0, 0);
        }
        for (int line = 0; line < 4; line++) {
            int n = m.lines[line].size();
            for (int i = 0; i < n; i += i < 2 || i > n - 3 ? 1 : 15) {
                both(19, line, i, 0);
                compareRow();
            }
            both(28, line, 0, 0);
            compareRow();
        }
        both(29, 0, 0, 0);
        compareRow();
    }

    /** All numbers of the ROW, and that there are no more. */
    private void compareRow() {
        for (int i = 0; i <= m.row.size(); i++) {
            both(35, i, 0, 0);
        }
    }

    public static void main(String[] args) {
        GridTest t = new GridTest();
        t.all(0, 0, false, 0, TEXTS[0]);
        t.all(1, 0, true, 1, TEXTS[1]);
        t.all(0, 3, false, 6, TEXTS[2]);
        t.all(2, 2, false, 3, TEXTS[3]);
        t.all(31, 32, true, 7, TEXTS[4]);
        t.all(64, 0, true, 4, TEXTS[5]);
        t.all(32, 32, false, 2, TEXTS[1]);
        t.due("within the calls that an object is used for", t.mostCalls <= 512 ? 1 : 0, 1);
        System.out.println("GridTest: " + t.asked + " checks, " + t.wrong + " wrong");
        if (t.wrong != 0) {
            System.exit(1);
        }
    }
}
