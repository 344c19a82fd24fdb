/** Runs of calls, always the same ones, on an object and on the model of the document: each answer, the whole ROW and all counts alike. */
public final class ModelTest {
    private static final int RUNS = 500;
    private static final int MOST_CALLS = 512;
    private static final String[] TABLES = {
        "0", "01/10", "01/11", "00/01", "012/120/201", "012/112/222", "000/012/022", "0123/1230/2301/3012",
        "0123/1032/2301/3210", "012/111/222", "012/121/212", "01234/12340/23401/34012/40123", "00000/01234/02222/03333/04444",
        "01/00", "10/01", "120/201/012", "00/00", "01", "0/0", "", "02/10", "012345", "012/120/20", "012/12/201", "012/1201/201", "04x/000/000",
        "01/10/", "/", "01 10", "5", "012/120/203", "000/111/222", "444444", "0x0000",
    };

    private long state;
    private EndSums x;
    private Model m;
    private int calls;
    private int wrong;
    private final StringBuilder story = new StringBuilder();

    private ModelTest(long seed) {
        state = seed;
    }

    private int below(int n) {
        state = state * 6364136223846793005L + 1442695040888963407L;
        return (int) ((state >>> 33) % n);
    }

    private int one(int... of) {
        return of[below(of.length)];
    }

    private int line() {
        return below(40) == 0 ? one(-1, 4, Integer.MAX_VALUE, Integer.MIN_VALUE) : below(4);
    }

    private int end() {
        return below(40) == 0 ? one(-1, 2, Integer.MAX_VALUE, Integer.MIN_VALUE) : below(2);
    }

    private int item() {
        int kind = below(40);
        if (kind == 0) return one(-1, 10000, Integer.MAX_VALUE, Integer.MIN_VALUE);
        if (kind < 4) return below(10000);
        if (kind < 5) return one(0, 1, 9999, 101, 10201 - 5);
        return below(12);
    }

    private int place() {
        return below(30) == 0 ? one(-1, 64, 65, Integer.MAX_VALUE, Integer.MIN_VALUE) : below(below(2) == 0 ? 6 : 64);
    }

    private int window() {
        return below(20) == 0 ? one(-1, 0, 65, Integer.MAX_VALUE, Integer.MIN_VALUE) : 1 + below(below(2) == 0 ? 4 : 64);
    }

    private String acts() {
        StringBuilder t = new StringBuilder();
        int n = below(12);
        for (int i = 0; i < n; i++) {
            switch (below(9)) {
                case 0: t.append('F'); break;
                case 1: t.append('B'); break;
                case 2: t.append('r'); break;
                case 3: t.append("  "); break;
                case 4: t.append('f').append(below(10000)); break;
                case 5: t.append("b00").append(below(100)); break;
                case 6: t.append(below(6) == 0 ? one('f', 'b', 'x', '1', 0, 255, '\t') : ' '); break;
                default: t.append(below(2) == 0 ? 'f' : 'b').append(below(12)); break;
            }
        }
        // Odd ends come from cutting.
        return below(6) == 0 && t.length() > 0 ? t.substring(0, below(t.length())) : t.toString();
    }

    private String tableText() {
        StringBuilder t = new StringBuilder(TABLES[below(TABLES.length)]);
        if (below(4) == 0 && t.length() > 0) {
            t.setCharAt(below(t.length()), (char) one('0', '1', '2', '3', '4', '5', '/', 'x', '9', 0, 255));
        }
        if (below(12) == 0) {
            t.insert(below(t.length() + 1), (char) one('0', '1', '4', '/'));
        }
        return t.toString();
    }

    private void tell(String text) {
        call(34, 0, 0, 0);
        for (int i = 0; i < text.length(); i += 4) {
            int four = 0;
            for (int k = 0; k < 4; k++) {
                four = four << 8 | (i + k < text.length() ? text.charAt(i + k) : 0);
            }
            call(33, four, 0, 0);
        }
        call(34, text.length(), 0, 0);
    }

    private void call(int what, int a, int b, int c) {
        story.append(what).append('(').append(a).append(", ").append(b).append(", ").append(c).append(") ");
        calls++;
        due("call " + what, Calls.ofObject(x, what, a, b, c), Calls.ofModel(m, what, a, b, c));
    }

    private void due(String what, long got, long want) {
        if (got != want) {
            wrong++;
            if (wrong < 5) {
                System.out.println(story + "\n  " + what + " answered " + got + ", due is " + want);
            }
        }
    }

    private void act() {
        int what = one(0, 1, 2, 3, 4, 5, 6, 6, 6, 6, 6, 7, 7, 7, 8, 9, 10, 11, 12, 13, 13, 14, 15, 16, 17, 17);
        act(what);
    }

    private void ask() {
        act(18 + below(18));
    }

    private void act(int what) {
        switch (what) {
            case 0: call(0, below(12) == 0 ? one(-1, 8, Integer.MAX_VALUE, Integer.MIN_VALUE) : below(8), 0, 0); break;
            case 1: tell(tableText()); call(1, 0, 0, 0); if (below(3) == 0) call(0, 7, 0, 0); break;
            case 3: call(3, item(), below(3) == 0 ? one(-1, 0, 1, 1000000000, 1000000001, Integer.MIN_VALUE, 127, 999999999) : below(200), 0); break;
            case 2: call(2, item(), item(), 0); break;
            case 4: call(what, item(), 0, 0); break;
            case 5: if (below(3) == 0) call(what, item(), 0, 0); break;
            case 6: call(6, line(), end(), item()); break;
            case 7: case 30: call(what, line(), end(), 0); break;
            case 8: case 9: case 28: call(what, line(), line(), 0); break;
            case 10: call(10, line(), place(), line()); break;
            case 12: case 13: call(what, line(), place(), item()); break;
            case 14: case 19: call(what, line(), place(), 0); break;
            case 15: call(15, line(), end(), window()); break;
            case 16: if (below(4) == 0) call(16, line(), 0, 0); break;
            case 17: tell(acts()); call(17, line(), 0, 0); break;
            case 20: call(20, line(), place(), place()); break;
            case 21: case 24: call(what, line(), window(), 0); break;
            case 22: case 23: call(what, line(), one(-1, 0, 1, 5, 10, 40, 100, 5000, 20000, Integer.MAX_VALUE, Integer.MIN_VALUE), 0); break;
            case 25: askFinds(); break;
            case 31: call(31, line(), below(10) == 0 ? one(-1, 0, 13, 32, Integer.MAX_VALUE) : 1 + below(12), 0); break;
            case 32: call(32, one(-1, 11, below(11), Integer.MAX_VALUE, Integer.MIN_VALUE), 0, 0); break;
            case 33: call(33, (int) (state >>> 17), 0, 0); break;
            case 34: call(34, one(-1, 0, 3, 100, 101, below(101)), 0, 0); break;
            case 35: call(35, one(-1, 0, 1, 2, 5, 127, 128, Integer.MAX_VALUE, Integer.MIN_VALUE), 0, 0); break;
            case 29: call(29, 0, 0, 0); break;
            default: call(what, line(), 0, 0); break;
        }
    }

    /** Asks for what is there, mostly. */
    private void askFinds() {
        int l = line();
        if (!Model.line(l) || m.lines[l].size() == 0 || below(4) == 0) {
            call(25, l, below(30) - 2, below(6) - 1);
            return;
        }
        int n = m.lines[l].size();
        int i = below(n);
        int w = 1 + below(Math.min(5, n - i));
        long[] sum = m.sumOf(l, i, i + w);
        call(25, l, (int) sum[0], (int) sum[1]);
    }

    private void compareAll() {
        for (int k = 0; k <= 10; k++) {
            due("count(" + k + ")", x.count(k), m.count(k));
        }
        for (int i = 0; i <= m.row.size(); i++) {
            due("row(" + i + ")", Calls.ofObject(x, 35, i, 0, 0), Calls.ofModel(m, 35, i, 0, 0));
        }
        calls += 12 + m.row.size();
    }

    private void run(boolean looksOften, boolean full) {
        x = new EndSums();
        m = new Model();
        calls = 0;
        story.setLength(0);
        if (full) {
            for (int i = 0; i < 60; i++) {
                call(6, 0, below(2), below(30));
            }
        }
        while (calls < MOST_CALLS - 170) {
            if (below(3) == 0) {
                ask();
            } else {
                act();
            }
            if (looksOften || below(20) == 0) {
                compareAll();
            }
        }
        compareAll();
    }

    public static void main(String[] args) {
        ModelTest t = new ModelTest(20261119);
        int all = 0;
        for (int i = 0; i < RUNS; i++) {
            t.run(i % 2 == 0, i % 3 == 0);
            all += t.calls;
        }
        System.out.println("ModelTest: " + all + " calls, " + t.wrong + " wrong");
        if (t.wrong != 0) {
            System.exit(1);
        }
    }
}
