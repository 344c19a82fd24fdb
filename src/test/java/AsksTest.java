/** Promises 22 to 37: what is asked of LINES. */
public final class AsksTest {
    private static final Check CHECK = new Check();
    private static final int MIN = Integer.MIN_VALUE;
    private static final int MAX = Integer.MAX_VALUE;

    /** LINE 0: 3 5 in the FRONT STACK, 7 9 8 in the BACK one; the ROW: 0, 0. */
    private static EndSums fiveItems() {
        EndSums x = new EndSums();
        x.puts(0, 0, 5);
        x.puts(0, 0, 3);
        x.puts(0, 1, 7);
        x.puts(0, 1, 9);
        x.puts(0, 1, 8);
        x.sum(1);
        return x;
    }

    /** LINE 0: so many ITEMS in each STACK, 1, 2, .. from the FRONT on. */
    private static EndSums lying(int front, int back) {
        EndSums x = new EndSums();
        for (int v = front; v > 0; v--) {
            x.puts(0, 0, v);
        }
        for (int v = front + 1; v <= front + back; v++) {
            x.puts(0, 1, v);
        }
        x.sum(1);
        return x;
    }

    private static void sum() {
        EndSums x = fiveItems();
        CHECK.due("sum", x.sum(0), 5);
        CHECK.row("sum", x, 32, 5);
        CHECK.due("no LINE", x.sum(4), -1);
        CHECK.due("no LINE", x.sum(-1), -1);
        CHECK.row("ROW stays", x, 32, 5);
        CHECK.due("of none", x.sum(3), 0);
        CHECK.row("of none", x, 0, 0);
        CHECK.due("WORK", x.count(7), 5);
        x.rule(6);
        x.sum(0);
        CHECK.row("from the FRONT on", x, 3, 8);
        x.rule(3);
        Check.fill(x, 0, 203, 304, 102);
        x.sum(0);
        // (2, 1) (3, 1): (6, 4); (1, 1) behind: (6, 5).
        CHECK.row("maps from the FRONT on", x, 6, 5);
    }

    private static void item() {
        EndSums x = fiveItems();
        long[][] want = {{3, 0, 0, 8, 2}, {5, 0, 1, 5, 1}, {7, 1, 2, 7, 1}, {9, 1, 1, 16, 2}, {8, 1, 0, 24, 3}};
        for (int i = 0; i < 5; i++) {
            CHECK.due("item " + i, Check.itemAt(x, 0, i), want[i][0]);
            CHECK.row("item " + i, x, want[i][1], want[i][2], want[i][3], want[i][4]);
        }
        int[] none = {5, -1, MIN, MAX};
        for (int i : none) {
            CHECK.due("item none such", Check.itemAt(x, 0, i), Check.THROWN);
        }
        CHECK.due("of an empty LINE", Check.itemAt(x, 1, 0), Check.THROWN);
        // Promise 23 names no answer below 0, so of no such LINE there is none such.
        int[] noLine = {4, -1, MIN, MAX};
        for (int line : noLine) {
            CHECK.due("no LINE", Check.itemAt(x, line, 0), Check.THROWN);
            CHECK.due("no LINE, none such", Check.itemAt(x, line, 9), Check.THROWN);
            CHECK.due("no LINE, below 0", Check.itemAt(x, line, -1), Check.THROWN);
        }
        CHECK.row("ROW stays", x, 1, 0, 24, 3);
        x.rule(6);
        Check.itemAt(x, 0, 0);
        CHECK.row("CELL in FRONT: from this to the lowest", x, 0, 0, 3, 5);
        Check.itemAt(x, 0, 4);
        CHECK.row("CELL in BACK: from the lowest to this", x, 1, 0, 7, 8);
    }

    private static void part() {
        EndSums x = fiveItems();
        CHECK.due("over both STACKS", x.part(0, 1, 4), 3);
        CHECK.row("over both STACKS", x, 21, 3);
        CHECK.due("all", x.part(0, 0, 5), 5);
        CHECK.row("all", x, 32, 5);
        CHECK.due("none", x.part(0, 5, 5), 0);
        CHECK.row("none", x, 0, 0);
        CHECK.due("of an empty LINE", x.part(1, 0, 0), 0);
        int[][] none = {{2, 1}, {-1, 2}, {-1, -1}, {0, 6}, {6, 6}, {MIN, MAX}, {MAX, MIN}, {0, MIN}, {0, MAX}};
        for (int[] ij : none) {
            CHECK.due("none such", x.part(0, ij[0], ij[1]), -2);
        }
        CHECK.due("no LINE", x.part(4, 2, 1), -1);
        CHECK.due("no LINE", x.part(-1, 0, 1), -1);
        CHECK.row("ROW stays", x, 0, 0);
        x.rule(1);
        x.part(0, 2, 4);
        CHECK.row("least and greatest", x, 7, 9);
    }

    private static void windows() {
        EndSums x = fiveItems();
        CHECK.due("of 3", x.windows(0, 3), 3);
        CHECK.row("of 3", x, 15, 3, 21, 3, 24, 3);
        CHECK.due("of all", x.windows(0, 5), 1);
        CHECK.row("of all", x, 32, 5);
        CHECK.due("of 1", x.windows(0, 1), 5);
        CHECK.row("of 1", x, 3, 1, 5, 1, 7, 1, 9, 1, 8, 1);
        x.sum(1);
        CHECK.due("fewer", x.windows(0, 6), -2);
        CHECK.due("fewer than 64", x.windows(0, 64), -2);
        CHECK.due("of an empty LINE", x.windows(1, 1), -2);
        CHECK.due("of 0", x.windows(0, 0), -1);
        CHECK.due("of 65", x.windows(0, 65), -1);
        CHECK.due("below 0", x.windows(0, MIN), -1);
        CHECK.due("no LINE", x.windows(4, 1), -1);
        CHECK.row("ROW stays", x, 0, 0);
        EndSums full = lying(30, 34);
        CHECK.due("64 of 1", full.windows(0, 1), 64);
        CHECK.due("numbers", full.count(9), 128);
        CHECK.due("the last", Check.rowAt(full, 126), 64);
        CHECK.due("the last q", Check.rowAt(full, 127), 1);
        CHECK.due("none behind", Check.rowAt(full, 128), Check.THROWN);
        CHECK.due("1 of 64", full.windows(0, 64), 1);
        CHECK.row("1 of 64", full, 65 * 32, 64);
    }

    private static void first() {
        EndSums x = fiveItems();
        CHECK.due("just", x.first(0, 15), 3);
        CHECK.row("just", x, 15, 3);
        CHECK.due("more", x.first(0, 9), 3);
        CHECK.due("all", x.first(0, 32), 5);
        CHECK.row("all", x, 32, 5);
        CHECK.due("one at least", x.first(0, 0), 1);
        CHECK.row("one at least", x, 3, 1);
        CHECK.due("any", x.first(0, MIN), 1);
        CHECK.due("none", x.first(0, 33), -2);
        CHECK.due("none", x.first(0, MAX), -2);
        CHECK.due("of an empty LINE", x.first(1, MIN), -2);
        CHECK.due("no LINE", x.first(4, 0), -1);
        CHECK.due("no LINE", x.first(-1, 0), -1);
        CHECK.row("ROW stays", x, 3, 1);
        x.rule(1);
        CHECK.due("p falls", x.first(0, 4), -2);
        CHECK.due("p of the first", x.first(0, 3), 1);
        Check.fill(x, 1, 9999, 9999, 9999);
        x.rule(0);
        CHECK.due("above ITEMS", x.first(1, 20000), 3);
    }

    private static void longest() {
        EndSums x = fiveItems();
        CHECK.due("two", x.longest(0, 15), 3);
        CHECK.row("two", x, 0);
        CHECK.due("of several the first", x.longest(0, 14), 2);
        CHECK.row("of several the first", x, 0);
        CHECK.due("one", x.longest(0, 3), 1);
        CHECK.row("one", x, 0);
        CHECK.due("all", x.longest(0, 32), 5);
        CHECK.row("all", x, 0);
        CHECK.due("all but one", x.longest(0, 31), 4);
        CHECK.row("all but one", x, 0);
        CHECK.due("none", x.longest(0, 2), 0);
        CHECK.row("none", x, -1);
        CHECK.due("none below 0", x.longest(0, MIN), 0);
        CHECK.due("of an empty LINE", x.longest(1, MAX), 0);
        CHECK.row("of an empty LINE", x, -1);
        Check.fill(x, 2, 9, 1, 2, 9, 2, 1);
        CHECK.due("in the middle", x.longest(2, 3), 2);
        CHECK.row("in the middle", x, 1);
        x.sum(3);
        CHECK.due("no LINE", x.longest(4, 3), -1);
        CHECK.due("no LINE", x.longest(-1, 3), -1);
        CHECK.row("ROW stays", x, 0, 0);
        // A longer stretch can have a lesser p than a shorter one.
        x.rule(1);
        CHECK.due("least", x.longest(0, 3), 5);
        x.rule(4);
        Check.fill(x, 2, 3, 3, 2, 2, 3);
        CHECK.due("closed before", x.longest(2, 0), 3);
        CHECK.row("closed before", x, 2);
    }

    private static void greatest() {
        EndSums x = fiveItems();
        CHECK.due("of equal ones the first", x.greatest(0, 2), 0);
        CHECK.row("of equal ones the first", x, 8, 2);
        x.rule(1);
        CHECK.due("q, not p", x.greatest(0, 2), 2);
        CHECK.row("q, not p", x, 7, 9);
        CHECK.due("of 1", x.greatest(0, 1), 3);
        CHECK.due("all", x.greatest(0, 5), 0);
        CHECK.row("all", x, 3, 9);
        CHECK.due("fewer", x.greatest(0, 6), -2);
        CHECK.due("of an empty LINE", x.greatest(1, 1), -2);
        CHECK.due("of 0", x.greatest(0, 0), -1);
        CHECK.due("of 65", x.greatest(0, 65), -1);
        CHECK.due("of 0 ahead of fewer", x.greatest(1, 0), -1);
        CHECK.due("no LINE", x.greatest(4, 1), -1);
        CHECK.row("ROW stays", x, 3, 9);
        EndSums full = lying(30, 34);
        CHECK.due("1 of 64", full.greatest(0, 64), 0);
        CHECK.row("1 of 64", full, 65 * 32, 64);
        full.rule(1);
        CHECK.due("the last of 64", full.greatest(0, 1), 63);
        x.rule(7);
        CHECK.due("all 0", x.greatest(0, 2), 0);
        CHECK.row("all 0", x, 0, 0);
    }

    private static void finds() {
        EndSums x = new EndSums();
        Check.fill(x, 0, 1, 2, 3, 1, 2, 5, 3);
        CHECK.due("one", x.finds(0, 3, 1), 1);
        CHECK.row("one", x, 2, 2);
        CHECK.due("two", x.finds(0, 3, 2), 2);
        CHECK.row("two", x, 0, 2);
        CHECK.due("all", x.finds(0, 17, 7), 7);
        CHECK.row("all", x, 0, 1);
        CHECK.due("q is another", x.finds(0, 3, 3), -2);
        CHECK.due("none", x.finds(0, 0, 0), -2);
        CHECK.due("none", x.finds(0, MIN, MAX), -2);
        CHECK.due("of an empty LINE", x.finds(1, 0, 0), -2);
        CHECK.due("no LINE", x.finds(4, 3, 1), -1);
        CHECK.due("no LINE", x.finds(-1, 3, 1), -1);
        CHECK.row("ROW stays", x, 0, 1);
        x.rule(6);
        CHECK.due("the fewest", x.finds(0, 1, 2), 2);
        CHECK.row("the fewest", x, 0, 2);
        CHECK.due("ends", x.finds(0, 1, 3), 3);
        CHECK.row("ends", x, 0, 1);
        CHECK.due("EMPTY is of none", x.finds(0, -1, -1), -2);
        x.rule(4);
        Check.fill(x, 0, 2, 2, 3, 3);
        CHECK.due("paired", x.finds(0, 0, 0), 2);
        CHECK.row("paired", x, 1, 1);
    }

    private static void drains() {
        EndSums x = lying(2, 2);
        CHECK.due("alike", x.drains(0), 3);
        CHECK.row("alike", x, 0, 3, 3);
        // From the FRONT 2 of 5 cost 3, the last of them 1; from the BACK 3 free ones, then 2, 1.
        EndSums y = fiveItems();
        CHECK.due("BACK is less", y.drains(0), 3);
        CHECK.row("BACK is less", y, 1, 4, 3);
        EndSums z = lying(5, 0);
        CHECK.due("all in FRONT", z.drains(0), 0);
        CHECK.row("all in FRONT", z, 0, 0, 8);
        EndSums full = lying(0, 64);
        CHECK.due("all in BACK", full.drains(0), 0);
        CHECK.row("all in BACK", full, 1, 64 + 32 + 16 + 8 + 4 + 2 + 1, 0);
        full.sum(1);
        CHECK.due("of an empty LINE", full.drains(1), 0);
        CHECK.row("of an empty LINE", full, 0, 0, 0);
        CHECK.due("no LINE", full.drains(4), -1);
        CHECK.due("no LINE", full.drains(-1), -1);
        CHECK.row("ROW stays", full, 0, 0, 0);
        CHECK.due("nothing is TAKEN", full.count(0), 64);
        CHECK.due("WORK", full.count(7), 64);
        CHECK.due("REBUILT", full.count(8), 0);
        CHECK.due("it lies as it lay", Check.front(full, 0), 0);
    }

    private static void unlike() {
        EndSums x = fiveItems();
        CHECK.due("all unlike", x.unlike(0), 5);
        CHECK.row("all unlike", x, 3, 1, 1);
        CHECK.due("of an empty LINE", x.unlike(1), 0);
        CHECK.row("nothing", x);
        x.rule(1);
        Check.fill(x, 0, 5, 5, 4, 4, 4, 9, 1);
        CHECK.due("most", x.unlike(0), 4);
        CHECK.row("most", x, 4, 5, 3);
        Check.fill(x, 0, 5, 5, 4, 4, 9);
        CHECK.due("of equal ones", x.unlike(0), 3);
        CHECK.row("of equal ones the first", x, 5, 5, 2);
        x.rule(2);
        Check.fill(x, 0, 6, 6, 6, 6, 6);
        CHECK.due("by turns", x.unlike(0), 2);
        CHECK.row("by turns", x, 6, 6, 3);
        CHECK.due("no LINE", x.unlike(4), -1);
        CHECK.due("no LINE", x.unlike(-1), -1);
        CHECK.row("ROW stays", x, 6, 6, 3);
    }

    private static void same() {
        EndSums x = fiveItems();
        x.copies(0, 1);
        CHECK.due("a COPY", x.same(0, 1), 1);
        CHECK.row("a COPY", x, 1, 5);
        CHECK.due("itself", x.same(0, 0), 1);
        CHECK.row("itself", x, 1, 5);
        Check.fill(x, 2, 3, 5, 7, 9, 8);
        CHECK.due("no CELLS of both", x.same(0, 2), 1);
        CHECK.row("no CELLS of both", x, 1, 0);
        Check.fill(x, 2, 5, 3, 7, 9, 8);
        CHECK.due("in order", x.same(2, 0), 0);
        CHECK.row("SUMMARIES alike", x, 1, 0);
        x.takes(1, 1);
        x.takes(1, 0);
        CHECK.due("fewer", x.same(0, 1), 0);
        CHECK.row("fewer", x, 0, 3);
        x.puts(1, 0, 3);
        x.puts(1, 1, 8);
        CHECK.due("PUT again", x.same(1, 0), 1);
        CHECK.row("PUT again", x, 1, 3);
        CHECK.due("empty and not", x.same(0, 3), 0);
        CHECK.row("empty and not", x, 0, 0);
        x.clears(2);
        CHECK.due("both empty", x.same(2, 3), 1);
        CHECK.row("both empty", x, 1, 0);
        CHECK.due("no LINE", x.same(0, 4), -1);
        CHECK.due("no LINE", x.same(-1, 0), -1);
        CHECK.row("ROW stays", x, 1, 0);
        x.copies(0, 2);
        x.rule(1);
        x.same(0, 2);
        CHECK.row("LAID anew", x, 1, 0);
    }

    private static void shared() {
        EndSums x = new EndSums();
        CHECK.due("none", x.shared(), 0);
        CHECK.row("none", x, 0, 0);
        x = fiveItems();
        CHECK.due("one LINE", x.shared(), 5);
        CHECK.row("one LINE", x, 0, 5);
        x.copies(0, 1);
        x.copies(1, 3);
        CHECK.due("three LINES", x.shared(), 5);
        CHECK.row("three LINES", x, 5, 15);
        x.takes(1, 0);
        x.puts(1, 0, 3);
        CHECK.due("one more", x.shared(), 6);
        CHECK.row("one more", x, 5, 15);
        x.clears(0);
        CHECK.due("two LINES", x.shared(), 6);
        CHECK.row("two LINES", x, 4, 10);
        x.copies(1, 2);
        x.reverses(1);
        x.takes(3, 1);
        CHECK.due("many", x.shared(), 5 + 4 + 1 + 1);
        CHECK.row("many", x, 3, 14);
        CHECK.due("WORK", x.count(7), 5 + 1 + 5);
    }

    private static void would() {
        EndSums x = fiveItems();
        CHECK.due("free", x.would(0, 0), 0);
        CHECK.row("free", x, 1, 3);
        CHECK.due("free from BACK", x.would(0, 1), 0);
        CHECK.row("free from BACK", x, 2, 2);
        EndSums y = lying(0, 5);
        CHECK.due("REBUILT", y.would(0, 0), 5);
        CHECK.row("REBUILT", y, 2, 2);
        CHECK.due("free", y.would(0, 1), 0);
        CHECK.row("free, none in FRONT", y, 0, 4);
        EndSums z = lying(4, 0);
        CHECK.due("REBUILT from BACK", z.would(0, 1), 4);
        CHECK.row("REBUILT from BACK", z, 2, 1);
        EndSums one = lying(1, 0);
        CHECK.due("one", one.would(0, 1), 1);
        CHECK.row("one", one, 0, 0);
        CHECK.due("none there", one.would(1, 0), -2);
        CHECK.due("no END ahead of none there", one.would(1, 2), -1);
        CHECK.due("no END", one.would(0, -1), -1);
        CHECK.due("no LINE", one.would(4, 0), -1);
        CHECK.row("ROW stays", one, 0, 0);
        CHECK.due("WORK", one.count(7), 1);
        CHECK.due("REBUILT not", one.count(8), 0);
        CHECK.due("nothing is TAKEN", one.count(0), 1);
    }

    private static void dearest() {
        EndSums x = lying(0, 5);
        CHECK.due("the FRONT", x.dearest(0, 1), 5);
        CHECK.row("the FRONT", x, 0);
        EndSums y = lying(5, 0);
        CHECK.due("the BACK", y.dearest(0, 1), 5);
        CHECK.row("the BACK", y, 1);
        // 2 and 2 lie there then: two TAKES and a third from one END cost 2.
        CHECK.due("the BACK, four times", y.dearest(0, 4), 7);
        CHECK.row("FRONT then, as the least", y, 1);
        CHECK.due("all five", y.dearest(0, 5), 8);
        CHECK.row("all five", y, 1);
        EndSums z = lying(1, 3);
        CHECK.due("two from the FRONT", z.dearest(0, 2), 3);
        CHECK.row("two from the FRONT", z, 0);
        EndSums w = lying(3, 1);
        CHECK.due("two from the BACK", w.dearest(0, 2), 3);
        CHECK.row("bit 0 is the first", w, 3);
        CHECK.due("one is free from each", w.dearest(0, 1), 0);
        CHECK.row("FRONT of equal ones", w, 0);
        CHECK.due("none left", w.dearest(0, 4), 4);
        EndSums v = lying(12, 1);
        CHECK.due("twelve", v.dearest(0, 12), 12 + 6 + 3);
        CHECK.due("WORK", v.count(7), 13);
        CHECK.due("nothing is TAKEN", v.count(0), 13);
        v.sum(1);
        CHECK.due("fewer", v.dearest(1, 1), -2);
        CHECK.due("fewer than 12", z.dearest(0, 12), -2);
        CHECK.due("fewer by one", z.dearest(0, 5), -2);
        CHECK.due("13", v.dearest(0, 13), -1);
        CHECK.due("0", v.dearest(0, 0), -1);
        CHECK.due("0 ahead of fewer", v.dearest(1, 0), -1);
        CHECK.due("below 0", v.dearest(0, MIN), -1);
        CHECK.due("no LINE", v.dearest(4, 1), -1);
        CHECK.row("ROW stays", v, 0, 0);
    }

    private static void count() {
        EndSums x = new EndSums();
        for (int line = 0; line < 4; line++) {
            for (int i = 0; i <= line; i++) {
                x.puts(line, 1, i);
            }
        }
        Check.table(x, "00/01");
        x.rule(6);
        x.takes(1, 0);
        x.sign(0);
        x.sum(0);
        int[] want = {1, 1, 3, 4, 6, 2, 1, 22, 1, 2, 4};
        for (int what = 0; what < want.length; what++) {
            CHECK.due("count(" + what + ")", x.count(what), want[what]);
        }
        int[] none = {-1, 11, MIN, MAX};
        for (int what : none) {
            CHECK.due("count of another", x.count(what), -1);
        }
        CHECK.row("count() tells no ROW", x, 0, 0);
    }

    private static void row() {
        EndSums x = fiveItems();
        x.item(0, 1);
        long[] want = {0, 1, 5, 1};
        for (int i = 0; i < want.length; i++) {
            CHECK.due("row(" + i + ")", Check.rowAt(x, i), want[i]);
        }
        int[] none = {4, -1, 128, MIN, MAX};
        for (int i : none) {
            CHECK.due("row none such", Check.rowAt(x, i), Check.THROWN);
        }
        x.longest(0, 3);
        CHECK.due("fewer numbers", Check.rowAt(x, 1), Check.THROWN);
        CHECK.due("none in a new object", Check.rowAt(new EndSums(), 0), Check.THROWN);
    }

    public static void main(String[] args) {
        sum();
        item();
        part();
        windows();
        first();
        longest();
        greatest();
        finds();
        drains();
        unlike();
        same();
        shared();
        would();
        dearest();
        count();
        row();
        CHECK.close("AsksTest");
    }
}
