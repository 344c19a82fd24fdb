/** Promises 1 to 21 at their edges: the last that is in and the first that is out, empty and full, and that refused calls change nothing. */
public final class EdgesTest {
    private static final Check CHECK = new Check();
    private static final Twins TWINS = new Twins(CHECK);
    private static final int MIN = Integer.MIN_VALUE;
    private static final int MAX = Integer.MAX_VALUE;
    private static final int[] NO_LINES = {-1, 4, MIN, MAX};
    private static final int[] NO_ENDS = {-1, 2, MIN, MAX};
    private static final int[] NO_ITEMS = {-1, 10000, MIN, MAX};

    /** LINE 0: so many ITEMS in each STACK, 1, 2, .. from the FRONT on. */
    private static EndSums lying(int front, int back) {
        EndSums x = new EndSums();
        for (int v = front; v > 0; v--) {
            x.puts(0, 0, v);
        }
        for (int v = front + 1; v <= front + back; v++) {
            x.puts(0, 1, v);
        }
        return x;
    }

    /** How many of the ITEMS of a LINE lie in its FRONT STACK, and how many in its BACK one. */
    private static void lies(String what, EndSums x, int line, int front, int back) {
        CHECK.due(what + ": in the FRONT STACK", Check.front(x, line), front);
        CHECK.due(what + ": in the BACK STACK", x.count(line) - Check.front(x, line), back);
    }

    private static void newObject() {
        EndSums x = new EndSums();
        for (int line = 0; line < 4; line++) {
            CHECK.due("new: ITEMS of LINE " + line, x.sum(line), 0);
            CHECK.row("new: SUMMARY of LINE " + line, x, 0, 0);
            CHECK.due("new: an ITEM of LINE " + line, Check.itemAt(x, line, 0), Check.THROWN);
        }
        CHECK.due("new: RULE 0 is so", x.rule(0), -2);
        CHECK.due("new: nothing in THE TEXT", x.end(1), false);
        // n of THE TABLE is 1 at first: all ITEMS are 0 by it, and 0 is the neutral one.
        x.rule(7);
        x.commutes(9999, 1);
        CHECK.row("new: THE TABLE", x, 0, 0, 0, 0);
    }

    // ---- Terms 1: how ELEMENTS wrap around, and EMPTY ones

    /** What powers() tells of one ITEM: its ELEMENT. */
    private static void element(int rule, int v, long p, long q) {
        EndSums x = new EndSums();
        x.rule(rule);
        x.powers(v, 1);
        CHECK.row("RULE " + rule + ": ELEMENT of " + v, x, p, q);
        x.powers(v, 0);
        long emptyP = Check.rowAt(x, 0);
        long emptyQ = Check.rowAt(x, 1);
        x.sum(0);
        CHECK.row("RULE " + rule + ": EMPTY", x, emptyP, emptyQ);
    }

    private static void elements() {
        element(0, 0, 0, 1);
        element(0, 9999, 9999, 1);
        element(1, 0, 0, 0);
        element(1, 9999, 9999, 9999);
        element(2, 9999, 9999, 9999);
        element(3, 100, 0, 100);
        element(3, 101, 1, 0);
        element(3, 9998, 98, 100);
        element(3, 9999, 99, 0);
        element(4, 18, 0, 9);
        element(4, 19, 9, 0);
        element(4, 20, 0, 0);
        element(4, 21, 0, 0);
        element(4, 22, 0, 1);
        element(4, 23, 1, 0);
        element(4, 9998, 0, 9);
        element(4, 9999, 9, 0);
        element(5, 23, 23, 0);
        element(5, 24, 0, 0);
        // 15: 2 1 3 0, of which four pairs are LEAPS.
        element(5, 9999, 15, 0);
        element(6, 0, 0, 0);
        element(6, 9999, 9999, 9999);
        element(7, 9999, 0, 0);
        EndSums x = new EndSums();
        Check.table(x, "01234/12340/23401/34012/40123");
        x.rule(7);
        int[] items = {0, 4, 5, 9999};
        int[] ps = {0, 4, 0, 4};
        for (int i = 0; i < items.length; i++) {
            x.powers(items[i], 1);
            CHECK.row("RULE 7, n 5: ELEMENT of " + items[i], x, ps[i], 0);
        }
    }

    private static void joined(int rule, int v, int u, long p, long q) {
        EndSums x = new EndSums();
        x.rule(rule);
        Check.fill(x, 0, v, u);
        x.sum(0);
        CHECK.row("RULE " + rule + ": " + v + " and " + u, x, p, q);
    }

    private static void joining() {
        joined(0, 9999, 9999, 19998, 2);
        joined(1, 5, 5, 5, 5);
        joined(1, 9999, 0, 0, 9999);
        joined(2, 0, 0, 0, 0);
        joined(2, 0, 9, 9, 9);
        joined(2, 9, 0, 9, 9);
        joined(2, 9, 10, 1, 3);
        // (50, 0) and (2, 1): 100; (51, 0) and (2, 1): 102 is 1.
        joined(3, 50 * 101, 203, 100, 1);
        joined(3, 51 * 101, 203, 1, 1);
        // (1, 100) and (1, 0), (1, 1), (3, 100): 100; 101 is 0; 400 is 97.
        joined(3, 201, 101, 1, 100);
        joined(3, 201, 102, 1, 0);
        joined(3, 201, 403, 3, 97);
        // 9 open, 9 close; one more, one less of each.
        joined(4, 18, 19, 0, 0);
        joined(4, 18, 17, 0, 1);
        joined(4, 16, 19, 1, 0);
        joined(4, 19, 18, 9, 9);
        joined(4, 18, 18, 0, 18);
        // 3 2 1 0 and 3 2 0 1: 1 0 2 3; six LEAPS and five.
        joined(5, 23, 22, 6, 1);
        joined(6, 0, 0, 0, 0);
        joined(6, 7, 0, 7, 0);
    }

    private static int[] arrangement(int k) {
        int[] of = new int[4];
        boolean[] used = new boolean[4];
        int[] sizes = {6, 2, 1, 1};
        int rest = k;
        for (int i = 0; i < 4; i++) {
            int nth = rest / sizes[i];
            rest %= sizes[i];
            int v = 0;
            while (used[v] || nth > 0) {
                nth -= used[v] ? 0 : 1;
                v++;
            }
            used[v] = true;
            of[i] = v;
        }
        return of;
    }

    private static int leaps(int[] of) {
        int leaps = 0;
        for (int i = 0; i < 4; i++) {
            for (int j = i + 1; j < 4; j++) {
                leaps += of[i] > of[j] ? 1 : 0;
            }
        }
        return leaps;
    }

    /** All pairs of ARRANGEMENTS. */
    private static void arrangements() {
        for (int k = 0; k < 24; k++) {
            EndSums x = new EndSums();
            x.rule(5);
            x.powers(k, 1);
            CHECK.row("ARRANGEMENT " + k, x, k, leaps(arrangement(k)) % 2);
            for (int m = 0; m < 24; m++) {
                x.commutes(k, m);
                int[] both = arrangement((int) Check.rowAt(x, 0));
                for (int i = 0; i < 4; i++) {
                    CHECK.due("ARRANGEMENTS " + k + ", " + m + " at " + i, both[i], arrangement(m)[arrangement(k)[i]]);
                }
                CHECK.due("LEAPS of " + k + ", " + m, Check.rowAt(x, 1), leaps(both) % 2);
            }
        }
    }

    // ---- Terms 2: REBUILT, LAID

    /** A TAKE from the END whose STACK is empty, of 1 .. 6 and 63, 64 ITEMS: what lies in that STACK, and in the other one, behind it. */
    private static void rebuilt() {
        int[] n = {1, 2, 3, 4, 5, 6, 7, 63, 64};
        int[] near = {0, 0, 1, 1, 2, 2, 3, 31, 31};
        int[] far = {0, 1, 1, 2, 2, 3, 3, 31, 32};
        for (int i = 0; i < n.length; i++) {
            EndSums x = lying(0, n[i]);
            CHECK.due("would() of " + n[i] + " in BACK", x.would(0, 0), n[i]);
            CHECK.row("would() of " + n[i] + " in BACK", x, near[i], far[i]);
            CHECK.due("the FRONT of " + n[i], x.takes(0, 0), 1);
            CHECK.row("the FRONT of " + n[i], x, n[i]);
            lies("the FRONT of " + n[i], x, 0, near[i], far[i]);
            CHECK.due("REBUILT once", x.count(8), 1);
            EndSums y = lying(n[i], 0);
            CHECK.due("would() of " + n[i] + " in FRONT", y.would(0, 1), n[i]);
            CHECK.row("would() of " + n[i] + " in FRONT", y, far[i], near[i]);
            CHECK.due("the BACK of " + n[i], y.takes(0, 1), n[i]);
            CHECK.row("the BACK of " + n[i], y, n[i]);
            lies("the BACK of " + n[i], y, 0, far[i], near[i]);
        }
        EndSums z = lying(1, 63);
        z.takes(0, 0);
        CHECK.row("the last of FRONT is free", z, 0);
        CHECK.due("REBUILT not", z.count(8), 0);
        lies("the last of FRONT is free", z, 0, 0, 63);
    }

    /** The CELLS behind REBUILT: each with the SUMMARY of its own and what lies below it, by a RULE that minds the order. */
    private static void rebuiltCells() {
        EndSums x = lying(0, 6);
        x.rule(6);
        x.takes(0, 0);
        long[][] want = {{2, 0, 0, 2, 3}, {3, 0, 1, 3, 3}, {4, 1, 2, 4, 4}, {5, 1, 1, 4, 5}, {6, 1, 0, 4, 6}};
        for (int i = 0; i < want.length; i++) {
            // Of 3 in the FRONT STACK the top is TAKEN.
            CHECK.due("ITEM " + i, Check.itemAt(x, 0, i), want[i][0]);
            CHECK.row("ITEM " + i, x, want[i][1], want[i][2], want[i][3], want[i][4]);
        }
    }

    // ---- Terms 3 and promises 2 to 7

    private static void rule() {
        for (int r : new int[] {-1, 8, MIN, MAX}) {
            TWINS.refused("rule(" + r + ")", -1, x -> x.rule(r));
        }
        TWINS.refused("rule(0), as it is so", -2, x -> x.rule(0));
        TWINS.tellsNothing("rule(7)", 0, x -> x.rule(7));
        TWINS.tellsNothing("rule(1)", 0, x -> x.rule(1));
        EndSums x = new EndSums();
        for (int r = 1; r <= 7; r++) {
            CHECK.due("rule(" + r + ")", x.rule(r), r - 1);
            CHECK.due("rule(" + r + ") again", x.rule(r), -2);
        }
        CHECK.due("rule(0)", x.rule(0), 7);
        CHECK.due("no LINE has ITEMS: WORK", x.count(7), 0);
        EndSums y = Twins.laden();
        int before = y.count(7);
        y.rule(6);
        CHECK.due("each LINE that has ITEMS is LAID", y.count(7), before + 5 + 64 + 4);
        CHECK.due("REBUILT not", y.count(8), 0);
        lies("as it lies", y, 0, 2, 3);
        CHECK.due("30 in the FRONT STACK", y.would(1, 0), 0);
        CHECK.row("30 in the FRONT STACK", y, 29, 34);
        y.shared();
        CHECK.row("no CELL lies in several", y, 0, 73);
        CHECK.due("THE TEXT stays", y.count(10), 5);
    }

    private static void tableRefused() {
        String[] texts = {"", "/", "0/", "5", "1", "02/10", "05/10", "01", "01/1", "01/10/", "01/100", "012345", "444444", "0123/1230", "\u00ff", "0 ",
            "0\u0000", "01/10\u0000", "\u0000", "01234/12340/23401/34012/40123/", "01234/12340/23401/34012/40123\u0000"};
        int[] wrong = {0, 0, 1, 0, 0, 1, 1, 2, 4, 5, 5, 5, 5, 9, 0, 1,
            1, 5, 0, 29, 29};
        for (int i = 0; i < texts.length; i++) {
            TWINS.refusedText("table() of \"" + texts[i] + "\"", texts[i], -21 - wrong[i], EndSums::table);
        }
        TWINS.refusedText("table(), none NEUTRAL", "00/11", -11, EndSums::table);
        String longest = "00000/".repeat(16) + "0000";
        TWINS.refusedText("table() of 100 signs", longest, -21 - 29, EndSums::table);
        EndSums x = Twins.laden();
        x.rule(7);
        x.sum(3);
        int before = x.count(7);
        CHECK.due("by RULE 7: not alike", Check.table(x, "01/00"), -10);
        CHECK.due("by RULE 7: none NEUTRAL", Check.table(x, "00/11"), -11);
        CHECK.due("by RULE 7: a wrong sign", Check.table(x, "2"), -21);
        CHECK.due("none is LAID", x.count(7), before);
        CHECK.due("n stays", x.count(5), 3);
    }

    private static void tableTold(String text, int answer, long... row) {
        EndSums x = new EndSums();
        CHECK.due("table() of " + text, Check.table(x, text), answer);
        CHECK.row("table() of " + text, x, row);
        CHECK.due("n stays", x.count(5), 1);
        CHECK.due("THE TEXT is emptied", x.count(10), 0);
    }

    /** The first three, by rows, that do not join alike: worked out by hand from the first row on. */
    private static void tableNotAlike() {
        // 1 0 comes to 0, 0 1 to 1.
        tableTold("11/00", -10, 0, 0, 0);
        // 1 1 comes to 0, 0 0 to 1.
        tableTold("10/00", -10, 0, 0, 1);
        // 0 1 comes to 1, 1 1 to 0.
        tableTold("01/00", -10, 1, 0, 1);
        // 1 0 comes to 2, 2 0 to 0.
        tableTold("000/200/000", -10, 1, 0, 0);
        // 2 0 comes to 1, 1 0 to 0.
        tableTold("000/000/100", -10, 2, 0, 0);
        // 2 2 comes to 0, 2 1 to 1.
        tableTold("000/000/010", -10, 2, 2, 1);
        // 2 2 2 comes to 0 both ways; 3 3 comes to 2, 2 0 to 0.
        tableTold("0000/0123/0230/0302", -10, 2, 2, 3);
        // 4 4 comes to 4, 1 2 to 3.
        tableTold("01234/12340/23401/34012/40124", -10, 1, 3, 4);
        EndSums x = new EndSums();
        CHECK.due("left ones join alike, none is NEUTRAL", Check.table(x, "000/111/222"), -11);
        CHECK.row("-11 tells no ROW", x);
    }

    /** All tables of two: what table() answers against the law itself. */
    private static void tablesOfTwo() {
        for (int bits = 0; bits < 16; bits++) {
            int[] t = {bits >> 3, bits >> 2 & 1, bits >> 1 & 1, bits & 1};
            int due = 2;
            for (int abc = 7; abc >= 0; abc--) {
                int a = abc >> 2;
                int b = abc >> 1 & 1;
                int c = abc & 1;
                due = t[2 * t[2 * a + b] + c] != t[2 * a + t[2 * b + c]] ? -100 - abc : due;
            }
            boolean zero = t[0] == 0 && t[1] == 1 && t[2] == 1;
            boolean one = t[1] == 0 && t[2] == 0 && t[3] == 1;
            EndSums x = new EndSums();
            String text = "" + t[0] + t[1] + "/" + t[2] + t[3];
            int got = Check.table(x, text);
            if (due < 0) {
                int abc = -100 - due;
                CHECK.due("table() of " + text, got, -10);
                CHECK.row("table() of " + text, x, abc >> 2, abc >> 1 & 1, abc & 1);
            } else {
                CHECK.due("table() of " + text, got, zero || one ? 2 : -11);
                CHECK.due("NEUTRAL of " + text, x.count(6), one ? 1 : 0);
            }
        }
    }

    private static void commutes() {
        for (int v : NO_ITEMS) {
            TWINS.refused("commutes(" + v + ", 1)", -1, x -> x.commutes(v, 1));
            TWINS.refused("commutes(1, " + v + ")", -1, x -> x.commutes(1, v));
            TWINS.refused("commutes(" + v + ", " + v + ")", -1, x -> x.commutes(v, v));
        }
        TWINS.asked("commutes(0, 9999)", 1, x -> x.commutes(0, 9999));
        EndSums x = new EndSums();
        CHECK.due("commutes(0, 9999)", x.commutes(0, 9999), 1);
        CHECK.row("commutes(0, 9999)", x, 9999, 2, 9999, 2);
        CHECK.due("commutes(9999, 9999)", x.commutes(9999, 9999), 1);
        x.rule(6);
        CHECK.due("ends of 0, 9999", x.commutes(0, 9999), 0);
        CHECK.row("ends of 0, 9999", x, 0, 9999, 9999, 0);
        // By RULE 3 q alone can tell them apart, by RULE 4 both do.
        x.rule(3);
        CHECK.due("q alone", x.commutes(102, 203), 0);
        CHECK.row("q alone", x, 2, 3, 2, 2);
    }

    private static void powers() {
        for (int v : NO_ITEMS) {
            TWINS.refused("powers(" + v + ", 1)", -1, x -> x.powers(v, 1));
            TWINS.refused("powers(" + v + ", 0)", -1, x -> x.powers(v, 0));
        }
        for (int n : new int[] {-1, 1000000001, MIN, MAX}) {
            TWINS.refused("powers(1, " + n + ")", -1, x -> x.powers(1, n));
        }
        TWINS.asked("powers(1, 0)", 0, x -> x.powers(1, 0));
        TWINS.asked("powers(1, 1000000000)", 41, x -> x.powers(1, 1000000000));
        int[] n = {0, 1, 2, 3, 4, 6, 536870911, 536870912, 536870913, 999999999, 1000000000};
        EndSums x = new EndSums();
        for (int i = 0; i < n.length; i++) {
            // A JOINING for each halving, and one for each that is odd but the last.
            int due = n[i] < 2 ? 0 : 31 - Integer.numberOfLeadingZeros(n[i]) + Integer.bitCount(n[i]) - 1;
            CHECK.due("powers(9999, " + n[i] + ")", x.powers(9999, n[i]), due);
            CHECK.row("powers(9999, " + n[i] + ")", x, 9999L * n[i], n[i]);
        }
        long[][] empty = {{0, 0}, {10000, -1}, {0, 0}, {1, 0}, {0, 0}, {0, 0}, {-1, -1}, {2, 0}};
        Check.table(x, "000/011/012");
        for (int r = 0; r < 8; r++) {
            x.rule(r);
            CHECK.due("none by RULE " + r, x.powers(5, 0), 0);
            CHECK.row("none by RULE " + r, x, empty[r]);
        }
    }

    private static void order() {
        for (int v : NO_ITEMS) {
            TWINS.refused("order(" + v + ")", -1, x -> x.order(v));
        }
        TWINS.refused("order(0), none", -2, x -> x.order(0));
        TWINS.refused("order(9999), none", -2, x -> x.order(9999));
        EndSums x = new EndSums();
        x.rule(1);
        CHECK.due("the least n", x.order(0), 2);
        CHECK.row("the least n", x, 1);
        CHECK.due("the greatest ITEM", x.order(9999), 2);
        x.rule(3);
        // (1, 1): 101 come to (1, 0), 102 to (1, 1) again.
        CHECK.due("the greatest n there is", x.order(102), 102);
        CHECK.row("the greatest n there is", x, 1);
        // 10, 100, 91, 1 and 10 again.
        CHECK.due("a round of four", x.order(10 * 101), 5);
        CHECK.row("a round of four", x, 1);
        x.rule(7);
        Check.table(x, "0123/1232/2323/3232");
        CHECK.due("of 2", x.order(1), 4);
        CHECK.row("of 2", x, 2);
        CHECK.due("order(9999)", x.order(9999), 3);
        CHECK.row("order(9999)", x, 1);
    }

    private static void undoes() {
        for (int v : NO_ITEMS) {
            TWINS.refused("undoes(" + v + ")", -1, x -> x.undoes(v));
        }
        TWINS.refused("undoes(0), none", -2, x -> x.undoes(0));
        TWINS.tellsNothing("undoes(9999)", -2, x -> x.undoes(9999));
        EndSums x = new EndSums();
        x.rule(4);
        CHECK.due("opening: one way only", x.undoes(2), -2);
        CHECK.due("closing: one way only", x.undoes(3), -2);
        CHECK.due("9999 closes", x.undoes(9999), -2);
        CHECK.due("nothing: the least is 0", x.undoes(9981), 0);
        x.rule(5);
        CHECK.due("ARRANGEMENT 0", x.undoes(0), 0);
        CHECK.due("24 is 0", x.undoes(24), 0);
        CHECK.due("9999 is 15", x.undoes(9999), undoing(15));
        for (int k = 0; k < 24; k++) {
            CHECK.due("ARRANGEMENT " + k, x.undoes(k), undoing(k));
        }
        x.rule(3);
        x.sum(0);
        CHECK.due("the greatest ITEM is one", x.undoes(5050), 9999);
        CHECK.due("what would do it is no ITEM", x.undoes(5101), -2);
        CHECK.due("EMPTY by itself", x.undoes(101), 101);
        CHECK.due("undoes(9999)", x.undoes(9999), 5050);
        CHECK.row("undoes() tells no ROW", x, 1, 0);
    }

    private static int undoing(int k) {
        int[] back = new int[4];
        for (int i = 0; i < 4; i++) {
            back[arrangement(k)[i]] = i;
        }
        int m = 0;
        while (!java.util.Arrays.equals(arrangement(m), back)) {
            m++;
        }
        return m;
    }

    // ---- promises 8 to 18

    private static void noLines() {
        for (int l : NO_LINES) {
            TWINS.refused("puts(" + l + ")", -1, x -> x.puts(l, 0, 1));
            TWINS.refused("takes(" + l + ")", -1, x -> x.takes(l, 0));
            TWINS.refused("copies(" + l + ", 0)", -1, x -> x.copies(l, 0));
            TWINS.refused("copies(0, " + l + ")", -1, x -> x.copies(0, l));
            TWINS.refused("copies, both one that is none: " + l, -1, x -> x.copies(l, l));
            TWINS.refused("joins(" + l + ", 0)", -1, x -> x.joins(l, 0));
            TWINS.refused("joins(0, " + l + ")", -1, x -> x.joins(0, l));
            TWINS.refused("joins(1, " + l + "), LINE 1 being full", -1, x -> x.joins(1, l));
            TWINS.refused("parts(" + l + ", 0, 0)", -1, x -> x.parts(l, 0, 0));
            TWINS.refused("parts(0, 0, " + l + ")", -1, x -> x.parts(0, 0, l));
            TWINS.refused("parts, both one that is none: " + l, -1, x -> x.parts(l, 0, l));
            TWINS.refused("parts(0, 9, " + l + "), LINE 0 having fewer", -1, x -> x.parts(0, 9, l));
            TWINS.refused("reverses(" + l + ")", -1, x -> x.reverses(l));
            TWINS.refused("changes(" + l + ")", -1, x -> x.changes(l, 0, 1));
            TWINS.refused("slips(" + l + ")", -1, x -> x.slips(l, 0, 1));
            TWINS.refused("drops(" + l + ")", -1, x -> x.drops(l, 0));
            TWINS.refused("shifts(" + l + ")", -1, x -> x.shifts(l, 0, 1));
            TWINS.refused("clears(" + l + ")", -1, x -> x.clears(l));
            TWINS.refusedText("run(" + l + ")", "f1", -1, x -> x.run(l));
            TWINS.refusedText("run(" + l + ") of a wrong sign", "x", -1, x -> x.run(l));
        }
    }

    private static void noEndsNoItems() {
        for (int e : NO_ENDS) {
            TWINS.refused("puts at " + e, -1, x -> x.puts(0, e, 1));
            TWINS.refused("puts at " + e + ", full", -1, x -> x.puts(1, e, 1));
            TWINS.refused("takes from " + e, -1, x -> x.takes(0, e));
            TWINS.refused("takes from " + e + ", none there", -1, x -> x.takes(3, e));
            TWINS.refused("shifts from " + e, -1, x -> x.shifts(0, e, 1));
            TWINS.refused("shifts from " + e + ", empty", -1, x -> x.shifts(3, e, 1));
        }
        for (int v : NO_ITEMS) {
            TWINS.refused("puts " + v, -1, x -> x.puts(0, 0, v));
            TWINS.refused("puts " + v + ", full", -1, x -> x.puts(1, 0, v));
            TWINS.refused("changes to " + v, -1, x -> x.changes(0, 0, v));
            TWINS.refused("changes to " + v + ", none such", -1, x -> x.changes(0, 5, v));
            TWINS.refused("slips " + v, -1, x -> x.slips(0, 0, v));
            TWINS.refused("slips " + v + ", no such i", -1, x -> x.slips(0, 6, v));
            TWINS.refused("slips " + v + ", full", -1, x -> x.slips(1, 0, v));
        }
    }

    /** Answers below 0 other than NONE; the last number that is in, and the first that is out. */
    private static void otherRefusals() {
        TWINS.refused("puts, full", -3, x -> x.puts(1, 0, 0));
        TWINS.refused("puts at the BACK, full", -3, x -> x.puts(1, 1, 9999));
        TWINS.refused("takes, none", -2, x -> x.takes(3, 0));
        TWINS.refused("takes from the BACK, none", -2, x -> x.takes(3, 1));
        for (int line = 0; line < 4; line++) {
            int l = line;
            TWINS.refused("copies, both are " + l, -2, x -> x.copies(l, l));
            TWINS.refused("parts, both are " + l, -2, x -> x.parts(l, 0, l));
            TWINS.refused("parts, both are " + l + ", fewer", -2, x -> x.parts(l, 65, l));
            TWINS.refused("parts, both are " + l + ", k below 0", -1, x -> x.parts(l, -1, l));
        }
        TWINS.refused("joins, 64 and 5", -3, x -> x.joins(1, 0));
        TWINS.refused("joins, 5 and 64", -3, x -> x.joins(0, 1));
        TWINS.refused("joins, 64 and 64", -3, x -> x.joins(1, 1));
        for (int k : new int[] {-1, MIN}) {
            TWINS.refused("parts, k " + k, -1, x -> x.parts(0, k, 3));
            TWINS.refused("parts, k " + k + " of an empty LINE", -1, x -> x.parts(3, k, 0));
        }
        TWINS.refused("parts, 6 of 5", -3, x -> x.parts(0, 6, 3));
        TWINS.refused("parts, 1 of none", -3, x -> x.parts(3, 1, 0));
        TWINS.refused("parts, 65 of 64", -3, x -> x.parts(1, 65, 0));
        TWINS.refused("parts, MAX", -3, x -> x.parts(1, MAX, 0));
        for (int i : new int[] {-1, 5, MIN, MAX}) {
            TWINS.refused("changes number " + i, -2, x -> x.changes(0, i, 1));
            TWINS.refused("drops number " + i, -2, x -> x.drops(0, i));
            TWINS.refused("changes number " + i + " of none", -2, x -> x.changes(3, i, 1));
            TWINS.refused("drops number " + i + " of none", -2, x -> x.drops(3, i));
        }
        TWINS.refused("changes number 0 of none", -2, x -> x.changes(3, 0, 1));
        TWINS.refused("drops number 0 of none", -2, x -> x.drops(3, 0));
        TWINS.refused("drops number 64 of 64", -2, x -> x.drops(1, 64));
        int[] items = {3, 5, 7, 9, 8};
        for (int place = 0; place < items.length; place++) {
            int i = place;
            TWINS.refused("changes number " + i + ", it is so", -4, x -> x.changes(0, i, items[i]));
        }
        for (int i : new int[] {-1, 6, MIN, MAX}) {
            TWINS.refused("slips number " + i, -2, x -> x.slips(0, i, 1));
        }
        TWINS.refused("slips number 1 of none", -2, x -> x.slips(3, 1, 1));
        TWINS.refused("slips number 65 of 64", -2, x -> x.slips(1, 65, 1));
        TWINS.refused("slips, full", -3, x -> x.slips(1, 0, 1));
        TWINS.refused("slips behind the last one, full", -3, x -> x.slips(1, 64, 1));
        for (int n : new int[] {-1, 0, 65, MIN, MAX}) {
            TWINS.refused("shifts " + n + " times", -1, x -> x.shifts(0, 0, n));
            TWINS.refused("shifts " + n + " times, empty", -1, x -> x.shifts(3, 0, n));
        }
        TWINS.refused("shifts, empty", -2, x -> x.shifts(3, 0, 1));
        TWINS.refused("shifts 64 times from the BACK, empty", -2, x -> x.shifts(3, 1, 64));
    }

    private static void tellNothing() {
        TWINS.tellsNothing("puts", 6, x -> x.puts(0, 0, 1));
        TWINS.tellsNothing("copies", 5, x -> x.copies(0, 3));
        TWINS.tellsNothing("copies of none", 0, x -> x.copies(3, 0));
        TWINS.tellsNothing("parts", 3, x -> x.parts(0, 2, 3));
        TWINS.tellsNothing("reverses", 5, x -> x.reverses(0));
        TWINS.tellsNothing("clears", 64, x -> x.clears(1));
        TWINS.tellsNothing("sign", 9, x -> x.sign(0));
        TWINS.tellsNothing("end", 1, x -> x.end(5) ? 1 : 0);
        TWINS.tellsNothing("end of too many", 0, x -> x.end(6) ? 1 : 0);
        TWINS.tellsNothing("table", 1, x -> {
            x.end(0);
            x.sign('0' << 24);
            x.end(1);
            return x.table();
        });
        TWINS.tellsNothing("count", -1, x -> x.count(11));
        TWINS.tellsNothing("row", Check.THROWN, x -> x.row(2));
        TWINS.tellsNothing("item of none", Check.THROWN, x -> x.item(3, 0));
    }

    private static void fullAndEmpty() {
        EndSums x = lying(31, 32);
        CHECK.due("the 64th", x.puts(0, 0, 0), 64);
        CHECK.due("the 65th", x.puts(0, 0, 0), -3);
        CHECK.due("one goes", x.takes(0, 1), 63);
        CHECK.due("the 64th at the BACK", x.puts(0, 1, 9999), 64);
        CHECK.due("the 65th at the BACK", x.puts(0, 1, 9999), -3);
        CHECK.due("copies of 64", x.copies(0, 3), 64);
        CHECK.due("joins with none", x.joins(0, 2), 64);
        CHECK.row("joins with none", x, 0);
        CHECK.due("none joins none", x.joins(1, 2), 0);
        CHECK.row("none joins none", x, 0);
        CHECK.due("none joins itself", x.joins(1, 1), 0);
        CHECK.due("parts of 64", x.parts(3, 64, 2), 0);
        lies("parts of 64", x, 3, 32, 32);
        CHECK.due("parts of 63", x.parts(3, 63, 2), 1);
        lies("parts of 63", x, 3, 32, 31);
        lies("the other one", x, 2, 1, 0);
        CHECK.due("clears 64", x.clears(0), 64);
        CHECK.due("clears none", x.clears(0), 0);
        EndSums y = lying(32, 0);
        CHECK.due("32 joins itself", y.joins(0, 0), 64);
        CHECK.row("32 joins itself", y, 32);
        CHECK.due("the first once more", Check.itemAt(y, 0, 32), 1);
        CHECK.due("the last once more", Check.itemAt(y, 0, 63), 32);
        y.takes(0, 0);
        y.copies(0, 1);
        CHECK.due("63 and 63", y.joins(0, 1), -3);
        Check.fill(y, 2, 5);
        CHECK.due("63 and 1", y.joins(0, 2), 64);
        Check.fill(y, 2, 5, 6);
        CHECK.due("63 and 2", y.joins(1, 2), -3);
        CHECK.due("2 and 63", y.joins(2, 1), -3);
    }

    /** A COPY that is taken out is REBUILT by halves, and counts; LINE other stays as it lies. */
    private static void joinsWork() {
        // Of n in the BACK STACK: n, then (n + 1) by 2 go, and the others are REBUILT.
        int[] n = {1, 2, 3, 4, 5, 8};
        int[] rebuilt = {1, 2, 2, 3, 3, 4};
        int[] work = {1, 2 + 1, 3 + 1, 4 + 2 + 1, 5 + 2 + 1, 8 + 4 + 2 + 1};
        for (int i = 0; i < n.length; i++) {
            EndSums x = lying(0, n[i]);
            CHECK.due("joins " + n[i], x.joins(1, 0), n[i]);
            CHECK.row("joins " + n[i], x, n[i] + work[i]);
            CHECK.due("REBUILT", x.count(8), rebuilt[i]);
            CHECK.due("WORK", x.count(7), n[i] + n[i] + work[i]);
            lies("the other", x, 0, 0, n[i]);
            lies("all at the BACK", x, 1, 0, n[i]);
            CHECK.due("same", x.same(0, 1), 1);
            CHECK.row("no CELL of both", x, 1, 0);
        }
    }

    private static void partsLaid() {
        int[] front = {0, 1, 1, 2, 2, 3, 3};
        for (int k = 0; k <= 6; k++) {
            EndSums x = lying(0, 6);
            x.rule(6);
            Check.fill(x, 3, 9, 9);
            int before = x.count(7);
            CHECK.due("parts at " + k, x.parts(0, k, 3), 6 - k);
            lies("first " + k, x, 0, front[k], k - front[k]);
            lies("others of " + k, x, 3, front[6 - k], 6 - k - front[6 - k]);
            CHECK.due("WORK", x.count(7), before + 6);
            CHECK.due("REBUILT", x.count(8), 0);
            x.sum(0);
            CHECK.row("first " + k, x, k == 0 ? -1 : 1, k == 0 ? -1 : k);
            x.sum(3);
            CHECK.row("others of " + k, x, k == 6 ? -1 : k + 1, k == 6 ? -1 : 6);
        }
    }

    private static void reversesLaid() {
        for (int front = 0; front <= 3; front++) {
            EndSums x = lying(front, 3 - front);
            CHECK.due("reverses " + front, x.reverses(0), 3);
            CHECK.items("reverses " + front, x, 0, 3, 2, 1);
            lies("reverses " + front, x, 0, 3 - front, front);
            CHECK.due("WORK", x.count(7), 6);
            CHECK.due("REBUILT", x.count(8), 0);
        }
        EndSums full = lying(64, 0);
        CHECK.due("reverses 64", full.reverses(0), 64);
        CHECK.due("64 in BACK", full.would(0, 1), 0);
        CHECK.row("64 in BACK", full, 0, 63);
        CHECK.due("none", full.reverses(1), 0);
        CHECK.due("WORK", full.count(7), 128);
    }

    /** changes() at each place of 2 and 3 ITEMS; drops() and slips() too: WORK, and what CELLS stay. */
    private static void oneAmong() {
        int[] changed = {1, 2, 3, 2, 1};
        int[] dropped = {0, 1, 2, 1, 0};
        int[] slipped = {1, 2, 4, 3, 2, 1};
        int[] frontThen = {3, 3, 2, 2, 2, 2};
        for (int i = 0; i < 5; i++) {
            EndSums x = lying(2, 3);
            x.copies(0, 1);
            CHECK.due("changes number " + i, x.changes(0, i, 9), i + 1);
            CHECK.row("changes number " + i, x, changed[i]);
            lies("changes number " + i, x, 0, 2, 3);
            x.same(0, 1);
            CHECK.row("CELLS that stay: changes number " + i, x, 0, 5 - changed[i]);
            CHECK.due("drops number " + i, x.drops(1, i), i + 1);
            CHECK.row("drops number " + i, x, dropped[i]);
            lies("drops number " + i, x, 1, i < 2 ? 1 : 2, i < 2 ? 3 : 2);
            CHECK.due("REBUILT", x.count(8), 0);
        }
        for (int i = 0; i <= 5; i++) {
            EndSums x = lying(2, 3);
            x.copies(0, 1);
            CHECK.due("slips number " + i, x.slips(0, i, 9), 6);
            CHECK.row("slips number " + i, x, slipped[i]);
            CHECK.due("it is number " + i, Check.itemAt(x, 0, i), 9);
            lies("slips number " + i, x, 0, frontThen[i], 6 - frontThen[i]);
            x.same(0, 1);
            CHECK.row("CELLS that stay: slips number " + i, x, 0, 6 - slipped[i]);
        }
        EndSums x = lying(2, 0);
        CHECK.due("behind the last one, BACK being empty", x.slips(0, 2, 9), 3);
        lies("behind the last one, BACK being empty", x, 0, 2, 1);
        EndSums y = lying(0, 2);
        CHECK.due("the first, FRONT being empty", y.slips(0, 0, 9), 3);
        CHECK.row("the first, FRONT being empty", y, 3);
        lies("the first, FRONT being empty", y, 0, 0, 3);
        EndSums z = lying(1, 0);
        CHECK.due("the only one", z.drops(0, 0), 1);
        CHECK.row("the only one", z, 0);
        CHECK.due("none is left", z.drops(0, 0), -2);
    }

    private static void shiftsBoth() {
        EndSums x = lying(3, 2);
        x.rule(6);
        CHECK.due("one from the FRONT", x.shifts(0, 0, 1), 1);
        CHECK.row("SUMMARY over both STACKS", x, 2, 1);
        lies("one from the FRONT", x, 0, 2, 3);
        CHECK.due("two from the BACK", x.shifts(0, 1, 2), 2);
        CHECK.row("SUMMARY over both STACKS", x, 5, 4);
        lies("two from the BACK", x, 0, 4, 1);
        EndSums full = lying(32, 32);
        CHECK.due("64 ITEMS once", full.shifts(0, 1, 1), 1);
        CHECK.row("64 ITEMS once", full, 65 * 32, 64);
        CHECK.due("they stay 64", full.count(0), 64);
        // 31 more are free; 64 in the FRONT STACK are REBUILT, 32 of them go.
        CHECK.due("64 ITEMS, 64 times", full.shifts(0, 1, 64), 64 + 64 + 64);
        CHECK.due("REBUILT", full.count(8), 2);
    }

    // ---- promises 19 to 21

    private static void runRefused() {
        String[] texts = {"f", "b", "x", "F F b", "f12345", "b00000", "f1 2", "0", "f 1", "f/", "f:", "f1/", "f1:", "R", "\u00ff", "f1\u0000", "r\u001f", "r!", "b-1"};
        int[] wrong = {1, 1, 0, 5, 5, 5, 3, 0, 1, 1, 1, 2, 2, 0, 0, 2, 1, 1, 1};
        for (int i = 0; i < texts.length; i++) {
            TWINS.refusedText("run of \"" + texts[i] + "\"", texts[i], -21 - wrong[i], x -> x.run(0));
        }
        TWINS.refusedText("run of a wrong sign behind what can't be", "F x", -21 - 2, x -> x.run(3));
        TWINS.refusedText("run of 100 signs, its end too early", " ".repeat(99) + "b", -21 - 100, x -> x.run(0));
        TWINS.refusedText("run of 100 signs, the last wrong", " ".repeat(99) + "x", -21 - 99, x -> x.run(0));
        // Signs that were cut are no part of THE TEXT.
        EndSums x = new EndSums();
        Check.text(x, "b4567");
        x.end(1);
        CHECK.due("digits that were cut", x.run(0), -22);
        Check.text(x, "b4567");
        x.end(3);
        CHECK.due("digits that were not", x.run(0), 1);
        CHECK.items("digits that were not", x, 0, 45);
        Check.text(x, "b4567");
        x.run(0);
        Check.text(x, "b");
        CHECK.due("digits of the TEXT before", x.run(0), -22);
    }

    private static void runDone() {
        EndSums x = lying(31, 32);
        CHECK.due("the 64th, the 65th", Check.run(x, 0, "f0f1"), 1);
        CHECK.row("the 64th, the 65th", x, 1, 1, 63 * 32, 64);
        CHECK.due("the 65th at the BACK", Check.run(x, 0, "b1F"), 0);
        CHECK.row("the 65th at the BACK", x, 1, 0, 63 * 32, 64);
        CHECK.due("one goes, one comes", Check.run(x, 0, "B b9999"), 2);
        CHECK.row("one goes, one comes", x, 0, 1, 63 * 32 - 63 + 9999, 64);
        CHECK.due("none there", Check.run(x, 1, "B"), 0);
        CHECK.row("none there", x, 1, 0, 0, 0);
        CHECK.due("none there in FRONT", Check.run(x, 1, " F r"), 0);
        CHECK.due("the only one", Check.run(x, 1, "f1BB"), 2);
        // It is PUT in the FRONT STACK, and REBUILT for the BACK one.
        CHECK.row("the only one", x, 1, 2, 0, 0);
        CHECK.due("r of none", Check.run(x, 1, "r"), 1);
        CHECK.row("r of none", x, 0, 0, 0, 0);
        CHECK.due("least ITEMS", Check.run(x, 2, "f0b00f000b0000"), 4);
        CHECK.items("least ITEMS", x, 2, 0, 0, 0, 0);
        CHECK.due("the greatest ITEM", Check.run(x, 3, "f9999"), 1);
        CHECK.row("the greatest ITEM", x, 0, 1, 9999, 1);
        CHECK.due("r LAYS anew", Check.run(x, 2, "r"), 1);
        CHECK.row("r LAYS anew", x, 0, 4, 0, 4);
        CHECK.due("100 ACTS", Check.run(x, 2, "r".repeat(100)), 100);
        CHECK.row("100 ACTS", x, 0, 400, 0, 4);
        CHECK.due("blanks alone", Check.run(x, 3, " ".repeat(100)), 0);
        CHECK.row("blanks alone", x, 0, 0, 9999, 1);
        EndSums y = lying(2, 0);
        y.rule(6);
        CHECK.due("both STACKS", Check.run(y, 0, "b3"), 1);
        CHECK.row("SUMMARY over both STACKS", y, 0, 1, 1, 3);
    }

    private static void signs() {
        for (int n : new int[] {-1, 6, MIN, MAX}) {
            TWINS.refused("end(" + n + ")", 0, x -> x.end(n) ? 1 : 0);
        }
        TWINS.refused("end(5) of 5", 1, x -> x.end(5) ? 1 : 0);
        for (int n = 0; n <= 5; n++) {
            EndSums x = Twins.laden();
            CHECK.due("end(" + n + ")", x.end(n), true);
            CHECK.due("signs left", x.count(10), n);
            CHECK.due("one more is not there", x.end(n + 1), false);
            CHECK.due("it stays", x.count(10), n);
        }
        for (int n = 93; n <= 100; n++) {
            EndSums x = new EndSums();
            Check.text(x, " ".repeat(n));
            CHECK.due("sign behind " + n, x.sign(-1), n > 96 ? -1 : n + 4);
            CHECK.due("signs then", x.count(10), n > 96 ? n : n + 4);
            CHECK.due("all blanks up to there", x.run(0), n > 96 ? 0 : -21 - n);
        }
        EndSums x = new EndSums();
        // The highest byte first: r, then 255, 0, 128.
        x.sign(0x72ff0080);
        CHECK.due("255 is wrong", x.run(0), -22);
        x.sign(0x66393939);
        x.sign(0x39000000);
        x.end(5);
        CHECK.due("f9999", x.run(0), 1);
        CHECK.items("f9999", x, 0, 9999);
        x.sign(MIN);
        CHECK.due("128 is wrong", x.run(0), -21);
        x.sum(0);
        Check.text(x, " ".repeat(100));
        CHECK.due("refused", x.sign(0), -1);
        CHECK.row("the ROW stays", x, 9999, 1);
    }

    public static void main(String[] args) {
        newObject();
        elements();
        joining();
        arrangements();
        rebuilt();
        rebuiltCells();
        rule();
        tableRefused();
        tableNotAlike();
        tablesOfTwo();
        commutes();
        powers();
        order();
        undoes();
        noLines();
        noEndsNoItems();
        otherRefusals();
        tellNothing();
        fullAndEmpty();
        joinsWork();
        partsLaid();
        reversesLaid();
        oneAmong();
        shiftsBoth();
        runRefused();
        runDone();
        signs();
        CHECK.close("EdgesTest");
    }
}
