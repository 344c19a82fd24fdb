import java.util.NoSuchElementException;

/** What the tests share: answers against those that are due, and texts by signs. */
final class Check {
    /** Stands for an answer that was NoSuchElementException. */
    static final long THROWN = Long.MIN_VALUE;

    private int wrong;
    private int checked;

    void due(String what, long got, long want) {
        checked++;
        if (got != want) {
            wrong++;
            System.out.println(what + " answered " + told(got) + ", due is " + told(want));
        }
    }

    void due(String what, boolean got, boolean want) {
        due(what, got ? 1 : 0, want ? 1 : 0);
    }

    /** The whole ROW, and that it has no more numbers. */
    void row(String what, EndSums x, long... want) {
        due(what + ": numbers of the ROW", x.count(9), want.length);
        for (int i = 0; i < want.length; i++) {
            due(what + ": row(" + i + ")", rowAt(x, i), want[i]);
        }
        due(what + ": row(" + want.length + ")", rowAt(x, want.length), THROWN);
    }

    static long rowAt(EndSums x, int i) {
        try {
            return x.row(i);
        } catch (NoSuchElementException e) {
            return THROWN;
        }
    }

    static long itemAt(EndSums x, int line, int i) {
        try {
            return x.item(line, i);
        } catch (NoSuchElementException e) {
            return THROWN;
        }
    }

    /** THE TEXT becomes that one (at most 100 signs). */
    static void text(EndSums x, String text) {
        x.end(0);
        for (int i = 0; i < text.length(); i += 4) {
            int four = 0;
            for (int k = 0; k < 4; k++) {
                four = four << 8 | (i + k < text.length() ? text.charAt(i + k) : 0);
            }
            x.sign(four);
        }
        x.end(text.length());
    }

    static int table(EndSums x, String text) {
        text(x, text);
        return x.table();
    }

    static int run(EndSums x, int line, String text) {
        text(x, text);
        return x.run(line);
    }

    /** A LINE becomes these ITEMS, each PUT at the BACK. */
    static void fill(EndSums x, int line, int... items) {
        x.clears(line);
        for (int v : items) {
            x.puts(line, 1, v);
        }
    }

    /** The ITEMS of a LINE, in order. */
    void items(String what, EndSums x, int line, int... want) {
        due(what + ": ITEMS of LINE " + line, x.count(line), want.length);
        for (int i = 0; i < want.length; i++) {
            due(what + ": item(" + line + ", " + i + ")", itemAt(x, line, i), want[i]);
        }
    }

    /** How many of the ITEMS of a LINE lie in its FRONT STACK. */
    static int front(EndSums x, int line) {
        int front = 0;
        for (int i = 0; i < x.count(line); i++) {
            itemAt(x, line, i);
            front += x.row(0) == 0 ? 1 : 0;
        }
        return front;
    }

    private static String told(long number) {
        return number == THROWN ? "throws.NoSuchElementException" : Long.toString(number);
    }

    void close(String name) {
        System.out.println(name + ": " + checked + " checks, " + wrong + " wrong");
        if (wrong != 0 || checked == 0) {
            System.exit(1);
        }
    }
}
