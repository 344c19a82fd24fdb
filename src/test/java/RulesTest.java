/** Promises 1 to 7: a new object, the RULES and THE TABLE. */
public final class RulesTest {
    private static final Check CHECK = new Check();

    private static void newObject() {
        EndSums x = new EndSums();
        int[] want = {0, 0, 0, 0, 0, 1, 0, 0, 0, 0, 0};
        for (int what = 0; what < want.length; what++) {
            CHECK.due("new: count(" + what + ")", x.count(what), want[what]);
        }
        CHECK.row("new", x);
        CHECK.due("NONE", EndSums.NONE, -1);
        EndSums other = new EndSums();
        other.puts(0, 0, 1);
        CHECK.due("objects share nothing", x.count(0), 0);
    }

    /** ITEM v alone, then v and u: SUMMARIES by a RULE; none first. */
    private static void sums(int rule, long p0, long q0, int v, long p1, long q1, int u, long p2, long q2) {
        EndSums x = new EndSums();
        x.rule(rule);
        String what = "RULE " + rule + " of " + v + ", " + u;
        x.sum(0);
        CHECK.row(what + ": EMPTY", x, p0, q0);
        x.puts(0, 1, v);
        x.sum(0);
        CHECK.row(what + ": one", x, p1, q1);
        x.puts(0, 1, u);
        x.sum(0);
        CHECK.row(what + ": both", x, p2, q2);
    }

    private static void elements() {
        sums(0, 0, 0, 9999, 9999, 1, 0, 9999, 2);
        sums(1, 10000, -1, 7, 7, 7, 3, 3, 7);
        sums(1, 10000, -1, 0, 0, 0, 9999, 0, 9999);
        sums(2, 0, 0, 12, 12, 12, 18, 6, 30);
        sums(2, 0, 0, 0, 0, 0, 5, 5, 5);
        sums(2, 0, 0, 6, 6, 6, 6, 6, 0);
        sums(3, 1, 0, 203, 2, 1, 304, 6, 4);
        sums(3, 1, 0, 9999, 99, 0, 9999, 99 * 99 % 101, 0);
        sums(3, 1, 0, 102, 1, 1, 100, 0, 100);
        sums(4, 0, 0, 2, 0, 1, 3, 0, 0);
        sums(4, 0, 0, 3, 1, 0, 2, 1, 1);
        sums(4, 0, 0, 21, 0, 0, 38, 0, 9);
        sums(4, 0, 0, 18, 0, 9, 5, 0, 7);
        sums(4, 0, 0, 4, 0, 2, 11, 3, 0);
        sums(5, 0, 0, 1, 1, 1, 2, 3, 0);
        sums(5, 0, 0, 26, 2, 1, 25, 4, 0);
        sums(5, 0, 0, 23, 23, 0, 23, 0, 0);
        sums(5, 0, 0, 6, 6, 1, 9, 15, 0);
        sums(6, -1, -1, 4, 4, 4, 0, 4, 0);
        sums(7, 0, 0, 9999, 0, 0, 5, 0, 0);
    }

    private static void brackets() {
        EndSums x = new EndSums();
        x.rule(4);
        // Closing 1, opening 3, closing 2, opening 1: one stays closing, two opening.
        Check.fill(x, 0, 3, 6, 5, 2);
        x.sum(0);
        CHECK.row("brackets", x, 1, 2);
    }

    private static void ruleCall() {
        EndSums x = new EndSums();
        Check.fill(x, 1, 4, 6);
        x.puts(1, 0, 5);
        x.puts(2, 0, 9);
        x.copies(1, 3);
        x.sum(1);
        CHECK.due("rule(-1)", x.rule(-1), -1);
        CHECK.due("rule(8)", x.rule(8), -1);
        CHECK.due("rule(0) as it is so", x.rule(0), -2);
        CHECK.due("WORK of refused calls", x.count(7), 4);
        CHECK.row("rule() leaves the ROW", x, 15, 3);
        CHECK.due("shared() ahead", x.shared(), 4);
        CHECK.due("rule(1)", x.rule(1), 0);
        CHECK.due("count(4)", x.count(4), 1);
        CHECK.due("WORK: each LINE is LAID", x.count(7), 4 + 7);
        CHECK.due("COPIES share no more", x.shared(), 7);
        CHECK.due("REBUILT not", x.count(8), 0);
        CHECK.due("front as it lay", Check.front(x, 1), 1);
        x.item(1, 2);
        CHECK.row("CELLS by the new RULE", x, 1, 0, 4, 6);
        CHECK.due("rule(7)", x.rule(7), 1);
        CHECK.due("rule(7) again", x.rule(7), -2);
    }

    private static void tableCall() {
        EndSums x = new EndSums();
        x.sum(0);
        CHECK.due("Z2", Check.table(x, "01/10"), 2);
        CHECK.due("n", x.count(5), 2);
        CHECK.due("neutral", x.count(6), 0);
        CHECK.due("emptied", x.count(10), 0);
        CHECK.due("maximum is neutral", Check.table(x, "000/011/012"), 3);
        CHECK.due("neutral of the least", x.count(6), 2);
        CHECK.due("neutral 1", Check.table(x, "00/01"), 2);
        CHECK.due("neutral 1 is", x.count(6), 1);
        CHECK.due("one", Check.table(x, "0"), 1);
        CHECK.due("five", Check.table(x, "01234/12340/23401/34012/40123"), 5);
        CHECK.row("table() tells no ROW", x, 0, 0);
        CHECK.due("not alike", Check.table(x, "01/00"), -10);
        CHECK.row("the first three", x, 1, 0, 1);
        CHECK.due("none neutral", Check.table(x, "00/11"), -11);
        CHECK.row("-11 leaves the ROW", x, 1, 0, 1);
        CHECK.due("only from one side", Check.table(x, "01/01"), -11);
        CHECK.due("not alike is told ahead of no neutral", Check.table(x, "10/00"), -10);
        CHECK.due("TABLE stays", x.count(5), 5);
        CHECK.due("neutral stays", x.count(6), 0);
    }

    private static void tableSigns() {
        EndSums x = new EndSums();
        x.sum(0);
        String[] texts = {"", "/", "5", "9", "x", " 0", "1", "0/", "0/0", "00", "01", "01/", "01/1", "01/10/", "01/102", "01/1/", "01/12",
            "02/10", "012345", "01234/", "000000", "4444", "012/120/201/", "012/120/20", "012/12/201", "01 10", "01/1x", "0123/4000",
            "01/10 ", "01x", "04x/000/000", "0x00000"};
        int[] want = {0, 0, 0, 0, 0, 0, 0, 1, 1, 2, 2, 3, 4, 5, 5, 4, 4,
            1, 5, 6, 5, 0, 11, 10, 6, 2, 4, 5,
            5, 2, 1, 1};
        for (int i = 0; i < texts.length; i++) {
            CHECK.due("table() of \"" + texts[i] + "\"", Check.table(x, texts[i]), -21 - want[i]);
            CHECK.due("the text is emptied", x.count(10), 0);
        }
        CHECK.row("ROW stays", x, 0, 0);
        CHECK.due("TABLE stays", x.count(5), 1);
    }

    private static void tableLays() {
        EndSums x = new EndSums();
        Check.fill(x, 0, 4, 5, 6);
        x.puts(0, 0, 7);
        CHECK.due("table() with another RULE", Check.table(x, "01/10"), 2);
        CHECK.due("WORK", x.count(7), 4);
        x.rule(7);
        CHECK.due("WORK by rule", x.count(7), 8);
        x.sum(0);
        CHECK.row("by Z2", x, 0, 0);
        CHECK.due("a table while RULE is 7", Check.table(x, "012/120/201"), 3);
        CHECK.due("WORK by table", x.count(7), 12);
        CHECK.due("as they lie", Check.front(x, 0), 1);
        x.sum(0);
        CHECK.row("by Z3", x, 22 % 3, 0);
        x.item(0, 3);
        CHECK.row("CELL by Z3", x, 1, 0, 0, 0);
        CHECK.due("refused", Check.table(x, "012/120/200"), -10);
        CHECK.due("WORK stays", x.count(7), 12);
        CHECK.due("the same table lays too", Check.table(x, "012/120/201"), 3);
        CHECK.due("WORK again", x.count(7), 16);
        CHECK.due("with another neutral one", Check.table(x, "000/011/012"), 3);
        x.sum(1);
        CHECK.row("EMPTY is the neutral one", x, 2, 0);
        Check.fill(x, 0, 2, 4);
        x.sum(0);
        CHECK.row("the least", x, 1, 0);
        CHECK.due("Z2 the other way", Check.table(x, "10/01"), 2);
        CHECK.due("its neutral one", x.count(6), 1);
        x.sum(0);
        CHECK.row("0 and 0", x, 1, 0);
    }

    private static void commutes() {
        EndSums x = new EndSums();
        CHECK.due("sums commute", x.commutes(3, 4), 1);
        CHECK.row("both ways", x, 7, 2, 7, 2);
        CHECK.due("no ITEM", x.commutes(-1, 4), -1);
        CHECK.due("no ITEM behind", x.commutes(4, 10000), -1);
        CHECK.row("stays", x, 7, 2, 7, 2);
        x.rule(6);
        CHECK.due("ends do not", x.commutes(3, 4), 0);
        CHECK.row("ends both ways", x, 3, 4, 4, 3);
        CHECK.due("alike ones do", x.commutes(4, 4), 1);
        x.rule(4);
        CHECK.due("brackets do not", x.commutes(2, 3), 0);
        CHECK.row("brackets both ways", x, 0, 0, 1, 1);
        x.rule(3);
        CHECK.due("p alone alike", x.commutes(203, 304), 0);
        CHECK.row("maps both ways", x, 6, 4, 6, 3);
        x.rule(7);
        Check.table(x, "012/111/222");
        CHECK.due("left ones do not", x.commutes(1, 2), 0);
        CHECK.row("left ones", x, 1, 0, 2, 0);
    }

    private static void powers() {
        EndSums x = new EndSums();
        int[] n = {0, 1, 2, 3, 4, 5, 7, 8, 15, 1000000000};
        int[] joins = {0, 0, 1, 2, 2, 3, 4, 3, 6, 41};
        for (int i = 0; i < n.length; i++) {
            CHECK.due("powers(9999, " + n[i] + ")", x.powers(9999, n[i]), joins[i]);
            CHECK.row("powers(9999, " + n[i] + ")", x, 9999L * n[i], n[i]);
        }
        CHECK.due("below 0", x.powers(1, -1), -1);
        CHECK.due("too many", x.powers(1, 1000000001), -1);
        CHECK.due("no ITEM", x.powers(10000, 1), -1);
        CHECK.due("no ITEM, none of it", x.powers(-1, 0), -1);
        CHECK.row("stays", x, 9999000000000L, 1000000000);
        x.rule(6);
        CHECK.due("none", x.powers(5, 0), 0);
        CHECK.row("none: EMPTY", x, -1, -1);
        x.rule(4);
        x.powers(19, 1000000000);
        CHECK.row("brackets", x, 9000000000L, 0);
        x.rule(5);
        x.powers(3, 2);
        CHECK.row("an ARRANGEMENT twice", x, 4, 0);
        x.powers(3, 3);
        CHECK.row("thrice", x, 0, 0);
        x.rule(3);
        x.powers(203, 3);
        CHECK.row("a map thrice", x, 8, 7);
        CHECK.due("WORK by questions", x.count(7), 0);
    }

    private static void order() {
        EndSums x = new EndSums();
        x.powers(1, 1);
        CHECK.due("sums: none", x.order(0), -2);
        CHECK.row("stays", x, 1, 1);
        CHECK.due("no ITEM", x.order(10000), -1);
        CHECK.due("no ITEM", x.order(-1), -1);
        x.rule(1);
        CHECK.due("least and greatest", x.order(4), 2);
        CHECK.row("least and greatest", x, 1);
        x.rule(2);
        CHECK.due("exclusive or", x.order(4), 3);
        CHECK.row("exclusive or", x, 1);
        x.rule(3);
        CHECK.due("adding 1", x.order(102), 102);
        CHECK.row("adding 1", x, 1);
        CHECK.due("doubling", x.order(202), 101);
        CHECK.row("doubling", x, 1);
        CHECK.due("to 0", x.order(7), 2);
        x.rule(4);
        CHECK.due("opening", x.order(2), -2);
        CHECK.due("nothing", x.order(20), 2);
        x.rule(5);
        CHECK.due("a round of four", x.order(9), 5);
        CHECK.row("a round of four", x, 1);
        CHECK.due("1 is like 3", x.order(1), 3);
        x.rule(7);
        // 1, 2, 3, then 2 and 3 by turns.
        CHECK.due("a tail", Check.table(x, "0123/1232/2323/3232"), 4);
        CHECK.due("like that of two", x.order(1), 4);
        CHECK.row("like that of two", x, 2);
    }

    private static void undoes() {
        EndSums x = new EndSums();
        x.sum(0);
        CHECK.due("sums", x.undoes(0), -2);
        CHECK.due("no ITEM", x.undoes(10000), -1);
        CHECK.due("no ITEM", x.undoes(-1), -1);
        x.rule(1);
        CHECK.due("least and greatest", x.undoes(9999), -2);
        x.rule(2);
        CHECK.due("0 is EMPTY", x.undoes(0), 0);
        CHECK.due("none else", x.undoes(1), -2);
        x.rule(3);
        CHECK.due("half", x.undoes(203), 5201);
        CHECK.due("one less", x.undoes(102), 201);
        CHECK.due("none to 0", x.undoes(5), -2);
        CHECK.due("the greatest ITEM", x.undoes(5050), 9999);
        CHECK.due("what undoes it is above the ITEMS", x.undoes(5101), -2);
        CHECK.due("98 by 67 is 1", x.undoes(98 * 101), 67 * 101);
        x.rule(4);
        CHECK.due("one way only", x.undoes(2), -2);
        CHECK.due("nothing opens", x.undoes(40), 0);
        CHECK.due("nothing closes", x.undoes(21), 0);
        x.rule(5);
        CHECK.due("a round", x.undoes(3), 4);
        CHECK.due("a round of four", x.undoes(33), 18);
        CHECK.due("the last", x.undoes(23), 23);
        x.rule(6);
        CHECK.due("ends", x.undoes(0), -2);
        x.rule(7);
        Check.table(x, "012/120/201");
        CHECK.due("Z3", x.undoes(1), 2);
        CHECK.due("Z3 of 4", x.undoes(4), 2);
        Check.table(x, "012/112/222");
        CHECK.due("greatest", x.undoes(2), -2);
        CHECK.due("its neutral one", x.undoes(0), 0);
        CHECK.row("undoes() tells no ROW", x, 0, 0);
    }

    public static void main(String[] args) {
        newObject();
        elements();
        brackets();
        ruleCall();
        tableCall();
        tableSigns();
        tableLays();
        commutes();
        powers();
        order();
        undoes();
        CHECK.close("RulesTest");
    }
}
