/** Promises 22 to 37 at their edges: the last that is in and the first that is out, empty and full, and that questions and refused calls change nothing. */
public final class AskedEdgesTest {
    private static final Check CHECK = new Check();
    private static final Twins TWINS = new Twins(CHECK);
    private static final int MIN = Integer.MIN_VALUE;
    private static final int MAX = Integer.MAX_VALUE;
    private static final int[] NO_LINES = {-1, 4, MIN, MAX};
    private static final int[] NO_WINDOWS = {-1, 0, 65, MIN, MAX};

    /** LINE 0: so many ITEMS in each STACK, 1, 2, .. from the FRONT on. */
    private static EndSums lying(int front, int back) {
        EndSums x = new EndSums();
        for (int v = front; v > 0; v--) {
            x.puts(0, 0, v);
        }
        for (int v = front + 1; v <= front + back; v++) {
            x.puts(0, 1, v);
        }
        return x;
    }

    /** LINE 0 with these ITEMS, by a RULE. */
    private static EndSums having(int rule, int... items) {
        EndSums x = new EndSums();
        x.rule(rule);
        Check.fill(x, 0, items);
        return x;
    }

    private static void noLines() {
        for (int l : NO_LINES) {
            TWINS.refused("sum(" + l + ")", -1, x -> x.sum(l));
            TWINS.refused("part(" + l + ", 0, 0)", -1, x -> x.part(l, 0, 0));
            TWINS.refused("part(" + l + ", 2, 1), none such", -1, x -> x.part(l, 2, 1));
            TWINS.refused("windows(" + l + ", 1)", -1, x -> x.windows(l, 1));
            TWINS.refused("windows(" + l + ", 0)", -1, x -> x.windows(l, 0));
            TWINS.refused("first(" + l + ", 0)", -1, x -> x.first(l, 0));
            TWINS.refused("first(" + l + ", MAX)", -1, x -> x.first(l, MAX));
            TWINS.refused("longest(" + l + ", 5)", -1, x -> x.longest(l, 5));
            TWINS.refused("greatest(" + l + ", 1)", -1, x -> x.greatest(l, 1));
            TWINS.refused("greatest(" + l + ", 64)", -1, x -> x.greatest(l, 64));
            TWINS.refused("finds(" + l + ", 3, 1)", -1, x -> x.finds(l, 3, 1));
            TWINS.refused("finds(" + l + ", -9, 0)", -1, x -> x.finds(l, -9, 0));
            TWINS.refused("drains(" + l + ")", -1, x -> x.drains(l));
            TWINS.refused("unlike(" + l + ")", -1, x -> x.unlike(l));
            TWINS.refused("same(" + l + ", 0)", -1, x -> x.same(l, 0));
            TWINS.refused("same(0, " + l + ")", -1, x -> x.same(0, l));
            TWINS.refused("same(" + l + ", " + l + ")", -1, x -> x.same(l, l));
            TWINS.refused("would(" + l + ", 0)", -1, x -> x.would(l, 0));
            TWINS.refused("dearest(" + l + ", 1)", -1, x -> x.dearest(l, 1));
            TWINS.refused("dearest(" + l + ", 12)", -1, x -> x.dearest(l, 12));
            for (int i : new int[] {0, -1, 64, MIN, MAX}) {
                TWINS.refused("item(" + l + ", " + i + ")", Twins.THROWN, x -> x.item(l, i));
            }
        }
    }

    /** Answers below 0, and what is thrown, where there is such a LINE. */
    private static void refusals() {
        for (int i : new int[] {-1, 5, 64, MIN, MAX}) {
            TWINS.refused("item(0, " + i + ")", Twins.THROWN, x -> x.item(0, i));
            TWINS.refused("item(3, " + i + ")", Twins.THROWN, x -> x.item(3, i));
        }
        TWINS.refused("item(3, 0) of none", Twins.THROWN, x -> x.item(3, 0));
        TWINS.refused("item(1, 64) of 64", Twins.THROWN, x -> x.item(1, 64));
        int[][] parts = {{1, 0}, {5, 4}, {-1, 0}, {-1, 5}, {-1, -1}, {0, 6}, {5, 6}, {6, 6}, {6, 5}, {0, -1}, {MIN, 0}, {MIN, MIN}, {0, MAX}, {MAX, MAX}, {MAX, MIN}, {MIN, MAX}};
        for (int[] p : parts) {
            TWINS.refused("part(0, " + p[0] + ", " + p[1] + ")", -2, x -> x.part(0, p[0], p[1]));
        }
        TWINS.refused("part(3, 0, 1) of none", -2, x -> x.part(3, 0, 1));
        TWINS.refused("part(3, 1, 1) of none", -2, x -> x.part(3, 1, 1));
        TWINS.refused("part(1, 0, 65) of 64", -2, x -> x.part(1, 0, 65));
        for (int w : NO_WINDOWS) {
            TWINS.refused("windows(0, " + w + ")", -1, x -> x.windows(0, w));
            TWINS.refused("windows(3, " + w + ") of none", -1, x -> x.windows(3, w));
            TWINS.refused("greatest(0, " + w + ")", -1, x -> x.greatest(0, w));
            TWINS.refused("greatest(3, " + w + ") of none", -1, x -> x.greatest(3, w));
        }
        for (int w : new int[] {6, 7, 63, 64}) {
            TWINS.refused("windows(0, " + w + ") of 5", -2, x -> x.windows(0, w));
            TWINS.refused("greatest(0, " + w + ") of 5", -2, x -> x.greatest(0, w));
        }
        for (int w : new int[] {1, 2, 64}) {
            TWINS.refused("windows(3, " + w + ") of none", -2, x -> x.windows(3, w));
            TWINS.refused("greatest(3, " + w + ") of none", -2, x -> x.greatest(3, w));
        }
        TWINS.refused("first(0, 33), all being 32", -2, x -> x.first(0, 33));
        TWINS.refused("first(0, MAX)", -2, x -> x.first(0, MAX));
        TWINS.refused("first(3, MIN) of none", -2, x -> x.first(3, MIN));
        TWINS.refused("finds(0, 4, 1)", -2, x -> x.finds(0, 4, 1));
        TWINS.refused("finds(0, 32, 4)", -2, x -> x.finds(0, 32, 4));
        TWINS.refused("finds(0, 0, 0), EMPTY", -2, x -> x.finds(0, 0, 0));
        TWINS.refused("finds(3, 0, 0) of none", -2, x -> x.finds(3, 0, 0));
        TWINS.refused("finds(0, MIN, MAX)", -2, x -> x.finds(0, MIN, MAX));
        for (int e : new int[] {-1, 2, MIN, MAX}) {
            TWINS.refused("would(0, " + e + ")", -1, x -> x.would(0, e));
            TWINS.refused("would(3, " + e + ") of none", -1, x -> x.would(3, e));
        }
        TWINS.refused("would(3, 0) of none", -2, x -> x.would(3, 0));
        TWINS.refused("would(3, 1) of none", -2, x -> x.would(3, 1));
        for (int n : new int[] {-1, 0, 13, 32, 64, MIN, MAX}) {
            TWINS.refused("dearest(0, " + n + ")", -1, x -> x.dearest(0, n));
            TWINS.refused("dearest(3, " + n + ") of none", -1, x -> x.dearest(3, n));
        }
        TWINS.refused("dearest(0, 6) of 5", -2, x -> x.dearest(0, 6));
        TWINS.refused("dearest(0, 12) of 5", -2, x -> x.dearest(0, 12));
        TWINS.refused("dearest(3, 1) of none", -2, x -> x.dearest(3, 1));
        for (int what : new int[] {-1, 11, MIN, MAX}) {
            TWINS.refused("count(" + what + ")", -1, x -> x.count(what));
        }
        for (int i : new int[] {-1, 2, 128, MIN, MAX}) {
            TWINS.refused("row(" + i + ") of two", Twins.THROWN, x -> x.row(i));
        }
    }

    /** Questions that are answered: nothing but the ROW is another one then. */
    private static void questions() {
        TWINS.asked("sum", 64, x -> x.sum(1));
        TWINS.asked("item", 63, x -> x.item(1, 63));
        TWINS.asked("part", 64, x -> x.part(1, 0, 64));
        TWINS.asked("windows", 64, x -> x.windows(1, 1));
        TWINS.asked("first", 64, x -> x.first(1, 32 * 63));
        TWINS.asked("longest", 64, x -> x.longest(1, MAX));
        TWINS.asked("greatest", 0, x -> x.greatest(1, 64));
        TWINS.asked("finds", 64, x -> x.finds(1, 32 * 63, 64));
        TWINS.asked("drains", 3, x -> x.drains(0));
        TWINS.asked("unlike", 64, x -> x.unlike(1));
        TWINS.asked("same", 0, x -> x.same(1, 0));
        TWINS.asked("shared", 69, EndSums::shared);
        TWINS.asked("would", 0, x -> x.would(1, 1));
        TWINS.asked("dearest", 0, x -> x.dearest(1, 12));
        TWINS.refused("count", 64, x -> x.count(1));
        TWINS.refused("row", 21, x -> x.row(0));
    }

    private static void items() {
        // The place is told from the top of each STACK.
        for (int front = 0; front <= 4; front++) {
            EndSums x = lying(front, 4 - front);
            x.rule(6);
            for (int i = 0; i < 4; i++) {
                CHECK.due("item " + i, Check.itemAt(x, 0, i), i + 1);
                if (i < front) {
                    CHECK.row("item " + i + ", " + front + " in FRONT", x, 0, i, i + 1, front);
                } else {
                    CHECK.row("item " + i + ", " + front + " in FRONT", x, 1, 3 - i, front + 1, i + 1);
                }
            }
            CHECK.due("none behind", Check.itemAt(x, 0, 4), Check.THROWN);
            CHECK.due("none ahead", Check.itemAt(x, 0, -1), Check.THROWN);
        }
        EndSums full = lying(32, 32);
        CHECK.due("the last of 64", Check.itemAt(full, 0, 63), 64);
        CHECK.row("the last of 64", full, 1, 0, 97 * 16, 32);
        CHECK.due("the lowest of FRONT", Check.itemAt(full, 0, 31), 32);
        CHECK.row("the lowest of FRONT", full, 0, 31, 32, 1);
        CHECK.due("the lowest of BACK", Check.itemAt(full, 0, 32), 33);
        CHECK.row("the lowest of BACK", full, 1, 31, 33, 1);
        for (int line = 0; line < 4; line++) {
            Check.fill(full, line, 7);
            CHECK.due("the only one of LINE " + line, Check.itemAt(full, line, 0), 7);
        }
    }

    /** SUMMARIES of none, by each RULE; of all; of one. */
    private static void sumsAndParts() {
        long[][] empty = {{0, 0}, {10000, -1}, {0, 0}, {1, 0}, {0, 0}, {0, 0}, {-1, -1}, {1, 0}};
        EndSums x = lying(2, 2);
        Check.table(x, "00/01");
        for (int r = 0; r < 8; r++) {
            x.rule(r);
            CHECK.due("sum of none", x.sum(1), 0);
            CHECK.row("sum of none by RULE " + r, x, empty[r]);
            for (int i = 0; i <= 4; i++) {
                CHECK.due("part of none at " + i, x.part(0, i, i), 0);
                CHECK.row("part of none by RULE " + r, x, empty[r]);
            }
            CHECK.due("part of an empty LINE", x.part(1, 0, 0), 0);
            CHECK.row("part of an empty LINE by RULE " + r, x, empty[r]);
        }
        x.rule(6);
        for (int i = 0; i < 4; i++) {
            for (int j = i + 1; j <= 4; j++) {
                CHECK.due("part(0, " + i + ", " + j + ")", x.part(0, i, j), j - i);
                CHECK.row("part(0, " + i + ", " + j + ")", x, i + 1, j);
            }
        }
        for (int w = 1; w <= 4; w++) {
            CHECK.due("windows of " + w, x.windows(0, w), 5 - w);
            CHECK.due("two numbers of each", x.count(9), 2 * (5 - w));
            for (int i = 0; i + w <= 4; i++) {
                CHECK.due("p of window " + i, Check.rowAt(x, 2 * i), i + 1);
                CHECK.due("q of window " + i, Check.rowAt(x, 2 * i + 1), i + w);
            }
        }
        EndSums full = lying(20, 44);
        CHECK.due("64 windows", full.windows(0, 1), 64);
        for (int i = 0; i < 64; i++) {
            CHECK.due("window " + i, Check.rowAt(full, 2 * i), i + 1);
        }
        CHECK.due("128 numbers", full.count(9), 128);
        CHECK.due("no more", Check.rowAt(full, 128), Check.THROWN);
        CHECK.due("one window", full.windows(0, 64), 1);
        CHECK.row("one window", full, 65 * 32, 64);
        CHECK.due("two windows", full.windows(0, 63), 2);
        CHECK.row("two windows", full, 63 * 32, 63, 65 * 32 - 1, 63);
    }

    private static void firsts() {
        EndSums x = lying(2, 2);
        // 1, 3, 6, 10.
        int[] v = {MIN, -1, 0, 1, 2, 3, 4, 6, 7, 10};
        int[] k = {1, 1, 1, 1, 2, 2, 3, 3, 4, 4};
        for (int i = 0; i < v.length; i++) {
            CHECK.due("first(0, " + v[i] + ")", x.first(0, v[i]), k[i]);
            CHECK.row("first(0, " + v[i] + ")", x, k[i] * (k[i] + 1) / 2, k[i]);
        }
        CHECK.due("one more than all", x.first(0, 11), -2);
        CHECK.row("the ROW stays", x, 10, 4);
        // By RULE 4 what opens has p 0.
        EndSums y = having(4, 2, 3, 3, 5);
        CHECK.due("p 0 is 0 at least", y.first(0, 0), 1);
        CHECK.row("p 0 is 0 at least", y, 0, 1);
        CHECK.due("two close what is not open", y.first(0, 2), 4);
        CHECK.row("two close what is not open", y, 3, 0);
        EndSums full = lying(0, 64);
        CHECK.due("all 64", full.first(0, 65 * 32), 64);
        CHECK.due("one more", full.first(0, 65 * 32 + 1), -2);
        // Of none SUMMARY would be p 10000: k is 1 at least.
        EndSums z = having(1, 5, 4);
        CHECK.due("not of none", z.first(0, 10000), -2);
        CHECK.due("p falls", z.first(0, 5), 1);
    }

    private static void longests() {
        EndSums x = lying(2, 2);
        // Stretches from the FRONT: 1, 3, 6, 10; none shorter is less.
        int[] v = {MIN, 0, 1, 2, 3, 5, 6, 9, 10, MAX};
        int[] n = {0, 0, 1, 1, 2, 2, 3, 3, 4, 4};
        for (int i = 0; i < v.length; i++) {
            CHECK.due("longest(0, " + v[i] + ")", x.longest(0, v[i]), n[i]);
            CHECK.row("longest(0, " + v[i] + ")", x, n[i] == 0 ? -1 : 0);
        }
        EndSums y = having(0, 4, 3, 2, 1);
        CHECK.due("at the BACK", y.longest(0, 1), 1);
        CHECK.row("at the BACK", y, 3);
        CHECK.due("three at the BACK", y.longest(0, 6), 3);
        CHECK.row("three at the BACK", y, 1);
        EndSums z = having(0, 9, 2, 2, 9, 2, 2, 9);
        CHECK.due("of several", z.longest(0, 4), 2);
        CHECK.row("the one nearest to the FRONT", z, 1);
        CHECK.due("of an empty LINE", z.longest(1, MAX), 0);
        CHECK.row("NONE", z, -1);
        // Of none SUMMARY would be p -1: there is no such stretch.
        EndSums w = having(6, 5, 4);
        CHECK.due("none", w.longest(0, 3), 0);
        CHECK.row("none", w, -1);
        CHECK.due("the last alone", w.longest(0, 4), 1);
        CHECK.row("the last alone", w, 1);
    }

    private static void greatests() {
        EndSums x = having(1, 3, 9, 1, 9, 9);
        CHECK.due("of several of 1", x.greatest(0, 1), 1);
        CHECK.row("of several of 1", x, 9, 9);
        CHECK.due("of several of 2", x.greatest(0, 2), 0);
        CHECK.row("of several of 2", x, 3, 9);
        CHECK.due("all", x.greatest(0, 5), 0);
        CHECK.row("all", x, 1, 9);
        EndSums y = having(1, 1, 2, 3);
        CHECK.due("at the BACK", y.greatest(0, 1), 2);
        CHECK.due("at the BACK, of 2", y.greatest(0, 2), 1);
        CHECK.row("at the BACK, of 2", y, 2, 3);
        // q 0 in all of them.
        EndSums z = having(7, 1, 2, 3);
        CHECK.due("all alike", z.greatest(0, 2), 0);
        CHECK.row("all alike", z, 0, 0);
        EndSums full = lying(1, 63);
        full.rule(6);
        CHECK.due("one of 64", full.greatest(0, 64), 0);
        CHECK.row("one of 64", full, 1, 64);
        CHECK.due("the last of 1", full.greatest(0, 1), 63);
        CHECK.row("the last of 1", full, 64, 64);
    }

    private static void findings() {
        EndSums x = having(0, 2, 2, 2, 2);
        for (int n = 1; n <= 4; n++) {
            CHECK.due("finds " + n, x.finds(0, 2 * n, n), n);
            CHECK.row("finds " + n, x, 0, 5 - n);
            CHECK.due("finds no " + n, x.finds(0, 2 * n, n + 1), -2);
        }
        EndSums y = having(1, 5, 4, 5, 4, 4);
        CHECK.due("the fewest", y.finds(0, 4, 5), 2);
        CHECK.row("the fewest", y, 0, 3);
        CHECK.due("the second", y.finds(0, 4, 4), 1);
        CHECK.row("the second", y, 1, 3);
        EndSums z = having(0, 1, 9, 2);
        CHECK.due("at the BACK", z.finds(0, 2, 1), 1);
        CHECK.row("at the BACK", z, 2, 1);
        CHECK.due("two at the BACK", z.finds(0, 11, 2), 2);
        CHECK.row("two at the BACK", z, 1, 1);
        EndSums full = lying(64, 0);
        CHECK.due("all 64", full.finds(0, 65 * 32, 64), 64);
        CHECK.row("all 64", full, 0, 1);
        // EMPTY itself can be that of some, by RULE 4: 1 or more.
        EndSums w = having(4, 2, 20, 3);
        CHECK.due("as EMPTY, of one", w.finds(0, 0, 0), 1);
        CHECK.row("as EMPTY, of one", w, 1, 1);
    }

    /** What drains() tells against TAKES that are done. */
    private static void drainings() {
        for (int front = 0; front <= 6; front++) {
            for (int back = 0; back <= 6; back++) {
                long[] cost = new long[2];
                for (int end = 0; end < 2; end++) {
                    EndSums x = lying(front, back);
                    int before = x.count(7);
                    for (int i = 0; i < front + back; i++) {
                        x.takes(0, end);
                    }
                    cost[end] = x.count(7) - before;
                }
                EndSums x = lying(front, back);
                CHECK.due("drains " + front + ", " + back, x.drains(0), Math.min(cost[0], cost[1]));
                CHECK.row("drains " + front + ", " + back, x, cost[1] < cost[0] ? 1 : 0, cost[0], cost[1]);
            }
        }
        EndSums full = lying(64, 0);
        CHECK.due("64 in FRONT", full.drains(0), 0);
        CHECK.row("64 in FRONT", full, 0, 0, 127);
        EndSums one = lying(0, 1);
        CHECK.due("one in BACK", one.drains(0), 0);
        CHECK.row("one in BACK", one, 1, 1, 0);
    }

    private static void unlikes() {
        EndSums x = having(1, 7);
        CHECK.due("one", x.unlike(0), 1);
        CHECK.row("one", x, 7, 7, 1);
        CHECK.due("none", x.unlike(1), 0);
        CHECK.row("none", x);
        CHECK.due("no number", Check.rowAt(x, 0), Check.THROWN);
        Check.fill(x, 0, 7, 7, 7);
        CHECK.due("all alike", x.unlike(0), 1);
        CHECK.row("all alike", x, 7, 7, 3);
        Check.fill(x, 0, 7, 6, 5, 5);
        CHECK.due("the last most", x.unlike(0), 3);
        CHECK.row("the last most", x, 5, 7, 2);
        // p alone alike, q alone alike.
        EndSums y = having(1, 5, 6, 7);
        CHECK.due("q differs", y.unlike(0), 3);
        CHECK.row("of equal ones the first", y, 5, 5, 1);
        EndSums z = having(1, 7, 6, 5);
        CHECK.due("p differs", z.unlike(0), 3);
        CHECK.row("of equal ones the first", z, 7, 7, 1);
        // 6, 0, 6, 0, .. by exclusive or: alike though not beside one another.
        EndSums w = having(2, 6, 6, 6, 6);
        CHECK.due("by turns", w.unlike(0), 2);
        CHECK.row("of equal ones the first", w, 6, 6, 2);
        EndSums full = lying(0, 64);
        CHECK.due("64", full.unlike(0), 64);
        CHECK.row("64", full, 1, 1, 1);
    }

    private static void samesAndShared() {
        EndSums x = lying(32, 32);
        for (int line = 1; line < 4; line++) {
            x.copies(0, line);
        }
        CHECK.due("four full LINES", x.shared(), 64);
        CHECK.row("four full LINES", x, 64, 256);
        CHECK.due("same", x.same(0, 3), 1);
        CHECK.row("same", x, 1, 64);
        x.rule(1);
        CHECK.due("LAID anew", x.shared(), 256);
        CHECK.row("LAID anew", x, 0, 256);
        CHECK.due("same still", x.same(0, 3), 1);
        CHECK.row("same still, no CELL", x, 1, 0);
        EndSums y = lying(1, 1);
        y.copies(0, 2);
        CHECK.due("in two LINES", y.shared(), 2);
        CHECK.row("in two LINES", y, 2, 4);
        y.takes(2, 0);
        CHECK.due("one in two LINES", y.shared(), 2);
        CHECK.row("one in two LINES", y, 1, 3);
        y.clears(0);
        CHECK.due("in one LINE", y.shared(), 1);
        CHECK.row("in one LINE", y, 0, 1);
        y.clears(2);
        CHECK.due("in none", y.shared(), 0);
        CHECK.row("in none", y, 0, 0);
        CHECK.due("two empty ones", y.same(0, 2), 1);
        CHECK.row("two empty ones", y, 1, 0);
        // Alike in ITEMS and places, yet not the same CELLS; a prefix is not the same.
        EndSums z = lying(0, 3);
        Check.fill(z, 1, 1, 2, 3);
        CHECK.due("ITEMS alone", z.same(0, 1), 1);
        CHECK.row("ITEMS alone", z, 1, 0);
        z.copies(0, 1);
        z.puts(1, 1, 0);
        CHECK.due("one more", z.same(0, 1), 0);
        CHECK.row("one more", z, 0, 3);
        CHECK.due("one fewer", z.same(1, 0), 0);
        CHECK.row("one fewer", z, 0, 3);
        Check.fill(z, 1, 9, 2, 3);
        CHECK.due("the first is another", z.same(0, 1), 0);
        CHECK.row("the first is another", z, 0, 0);
        Check.fill(z, 1, 1, 2, 9);
        CHECK.due("the last is another", z.same(0, 1), 0);
        // The same ITEM at the END of each STACK of one CELL: unlike CELLS.
        EndSums w = lying(1, 0);
        w.copies(0, 1);
        w.reverses(1);
        CHECK.due("the other STACK", w.same(0, 1), 1);
        CHECK.row("the other STACK", w, 1, 0);
        w.copies(0, 2);
        w.joins(3, 0);
        CHECK.due("a COPY that is taken out is gone", w.shared(), 3);
        CHECK.row("a COPY that is taken out is gone", w, 1, 4);
    }

    private static void woulds() {
        for (int front = 0; front <= 3; front++) {
            for (int back = 0; back <= 3; back++) {
                for (int end = 0; end < 2 && front + back > 0; end++) {
                    EndSums x = lying(front, back);
                    EndSums y = lying(front, back);
                    y.takes(0, end);
                    long cost = Check.rowAt(y, 0);
                    int left = Check.front(y, 0);
                    CHECK.due("would " + front + ", " + back + " from " + end, x.would(0, end), cost);
                    CHECK.row("would " + front + ", " + back + " from " + end, x, left, front + back - 1 - left);
                }
            }
        }
    }

    /** The most WORK of all rows of n ENDS, each done on an object by itself; the least such number behind it. */
    private static long[] dearestOf(int front, int back, int n) {
        long[] best = {-1, 0};
        for (int ends = 0; ends < 1 << n; ends++) {
            EndSums x = lying(front, back);
            int before = x.count(7);
            for (int k = 0; k < n; k++) {
                x.takes(0, ends >> k & 1);
            }
            int cost = x.count(7) - before;
            if (cost > best[0]) {
                best[0] = cost;
                best[1] = ends;
            }
        }
        return best;
    }

    private static void dearests() {
        for (int front = 0; front <= 5; front++) {
            for (int back = 0; back <= 5; back++) {
                EndSums x = lying(front, back);
                // Twice: what one question leaves behind is nothing to the next.
                for (int turn = 0; turn < 2; turn++) {
                    for (int n = 1; n <= Math.min(7, front + back); n++) {
                        long[] due = dearestOf(front, back, n);
                        CHECK.due("dearest " + n + " of " + front + ", " + back, x.dearest(0, n), due[0]);
                        CHECK.row("dearest " + n + " of " + front + ", " + back, x, due[1]);
                    }
                }
                CHECK.due("one more than there are", x.dearest(0, front + back + 1), -2);
            }
        }
        int[][] lyings = {{12, 0}, {0, 12}, {13, 0}, {6, 6}, {1, 11}, {64, 0}, {0, 64}, {63, 1}, {32, 32}, {5, 20}};
        for (int[] l : lyings) {
            EndSums x = lying(l[0], l[1]);
            long[] due = dearestOf(l[0], l[1], 12);
            CHECK.due("dearest 12 of " + l[0] + ", " + l[1], x.dearest(0, 12), due[0]);
            CHECK.row("dearest 12 of " + l[0] + ", " + l[1], x, due[1]);
            CHECK.due("13", x.dearest(0, 13), -1);
        }
        EndSums full = lying(64, 0);
        for (int turn = 0; turn < 3; turn++) {
            CHECK.due("1 of 64", full.dearest(0, 1), 64);
            CHECK.row("1 of 64", full, 1);
        }
        EndSums eleven = lying(11, 0);
        CHECK.due("12 of 11", eleven.dearest(0, 12), -2);
        CHECK.due("11 of 11", eleven.dearest(0, 11), dearestOf(11, 0, 11)[0]);
    }

    /** Just as many calls as an object is used for: each LAYS 256 ITEMS anew. */
    private static void lastCall() {
        EndSums x = lying(32, 32);
        for (int line = 1; line < 4; line++) {
            x.copies(0, line);
        }
        for (int calls = 67; calls < 509; calls++) {
            x.rule(calls % 2);
        }
        CHECK.due("WORK at the last call but two", x.count(7), 64 + 442 * 256);
        CHECK.due("ITEMS at the last call but one", x.count(3), 64);
        CHECK.due("RULE at the last call", x.count(4), 0);
    }

    public static void main(String[] args) {
        noLines();
        refusals();
        questions();
        items();
        sumsAndParts();
        firsts();
        longests();
        greatests();
        findings();
        drainings();
        unlikes();
        samesAndShared();
        woulds();
        dearests();
        lastCall();
        CHECK.close("AskedEdgesTest");
    }
}
