import java.util.NoSuchElementException;

/** Two objects that had the same calls: one gets one more, and what shows of both then is compared. */
final class Twins {
    /** Stands for an answer that was NoSuchElementException. */
    static final long THROWN = Check.THROWN;

    interface Call {
        long of(EndSums x);
    }

    private final Check check;

    Twins(Check check) {
        this.check = check;
    }

    /**
     * LINE 0: 3 5 in the FRONT STACK, 7 9 8 in the BACK one; LINE 1: 64 ITEMS, 30 of them in the FRONT one; LINE 2: a COPY of LINE 0 less its last ITEM; LINE 3: empty.
     * THE TABLE: Z3; THE TEXT: f1 b2; the ROW: 21, 3.
     */
    static EndSums laden() {
        EndSums x = new EndSums();
        x.puts(0, 0, 5);
        x.puts(0, 0, 3);
        x.puts(0, 1, 7);
        x.puts(0, 1, 9);
        x.puts(0, 1, 8);
        for (int v = 0; v < 64; v++) {
            x.puts(1, v < 30 ? 0 : 1, v);
        }
        x.copies(0, 2);
        x.takes(2, 1);
        Check.table(x, "012/120/201");
        Check.text(x, "f1 b2");
        x.part(0, 1, 4);
        return x;
    }

    static long answer(Call call, EndSums x) {
        try {
            return call.of(x);
        } catch (NoSuchElementException e) {
            return THROWN;
        }
    }

    /** A call on a laden object that answers so and changes nothing at all. */
    void refused(String what, long due, Call call) {
        EndSums x = laden();
        check.due(what, answer(call, x), due);
        alike(what, x, laden(), true);
    }

    /** As refused(), of a call that reads this TEXT: it is emptied, and no more. */
    void refusedText(String what, String text, long due, Call call) {
        EndSums x = laden();
        Check.text(x, text);
        check.due(what, answer(call, x), due);
        EndSums y = laden();
        y.end(0);
        alike(what, x, y, true);
    }

    /** A call on a laden object that is done and changes nothing but the ROW. */
    void asked(String what, long due, Call call) {
        EndSums x = laden();
        check.due(what, answer(call, x), due);
        alike(what, x, laden(), false);
    }

    /** A call on a laden object that is done and leaves the ROW as it was. */
    void tellsNothing(String what, long due, Call call) {
        EndSums x = laden();
        check.due(what, answer(call, x), due);
        check.row(what + " tells no ROW", x, 21, 3);
    }

    private void alike(String what, EndSums x, EndSums y, boolean withRow) {
        String shown = (withRow ? row(x) : "") + state(x);
        String due = (withRow ? row(y) : "") + state(y);
        check.due(what + " leaves " + due + " as it was, not " + shown, shown.equals(due), true);
    }

    private static String row(EndSums x) {
        StringBuilder b = new StringBuilder("ROW");
        for (int i = 0; i < x.count(9); i++) {
            b.append(' ').append(Check.rowAt(x, i));
        }
        return b.toString();
    }

    /** All that can be asked but the ROW: numbers of LINES, RULE, TABLE, WORK, TEXT; the first and the last ITEMS, their places and CELLS. */
    private static String state(EndSums x) {
        StringBuilder b = new StringBuilder("; counts");
        for (int what = 0; what <= 10; what++) {
            b.append(' ').append(what == 9 ? 0 : x.count(what));
        }
        for (int line = 0; line < 4; line++) {
            int n = x.sum(line);
            b.append("; LINE ").append(line).append(row(x));
            for (int i = 0; i < n; i++) {
                if (i < 5 || i > n - 3) {
                    b.append(" item ").append(Check.itemAt(x, line, i)).append(row(x));
                }
            }
            b.append(" from 0 ").append(x.would(line, 0)).append(row(x));
        }
        b.append("; shared ").append(x.shared()).append(row(x));
        b.append("; same ").append(x.same(0, 2)).append(row(x));
        return b.toString();
    }
}
