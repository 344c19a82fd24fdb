/** Promises 8 to 21: what changes LINES, ACTS told as a text, and THE TEXT. */
public final class LinesTest {
    private static final Check CHECK = new Check();
    private static final int MIN = Integer.MIN_VALUE;
    private static final int MAX = Integer.MAX_VALUE;

    /** An object whose LINE 0 has 64 ITEMS, 0 .. 63, all in the BACK STACK. */
    private static EndSums fullLine() {
        EndSums x = new EndSums();
        for (int v = 0; v < 64; v++) {
            x.puts(0, 1, v);
        }
        return x;
    }

    /** LINE 0: 3 5 in the FRONT STACK, 7 9 8 in the BACK one. */
    private static EndSums fiveItems() {
        EndSums x = new EndSums();
        x.puts(0, 0, 5);
        x.puts(0, 0, 3);
        x.puts(0, 1, 7);
        x.puts(0, 1, 9);
        x.puts(0, 1, 8);
        return x;
    }

    private static void puts() {
        EndSums x = new EndSums();
        x.sum(0);
        CHECK.due("first", x.puts(0, 0, 0), 1);
        CHECK.due("front", x.puts(0, 0, 9999), 2);
        CHECK.due("back", x.puts(0, 1, 7), 3);
        CHECK.items("puts", x, 0, 9999, 0, 7);
        CHECK.due("another LINE", x.puts(3, 1, 7), 1);
        int[][] refused = {{-1, 0, 1}, {4, 0, 1}, {MIN, 0, 1}, {0, 2, 1}, {0, -1, 1}, {0, MAX, 1}, {0, 0, -1}, {0, 0, 10000}, {0, 0, MIN}};
        for (int[] r : refused) {
            CHECK.due("puts refused", x.puts(r[0], r[1], r[2]), -1);
        }
        CHECK.due("WORK", x.count(7), 4);
        EndSums full = fullLine();
        full.sum(1);
        CHECK.due("65th", full.puts(0, 0, 1), -3);
        CHECK.due("65th behind", full.puts(0, 1, 1), -3);
        CHECK.due("65th, no ITEM", full.puts(0, 1, 10000), -1);
        CHECK.due("65th, no END", full.puts(0, 2, 1), -1);
        CHECK.due("64 stay", full.count(0), 64);
        CHECK.row("ROW stays", full, 0, 0);
    }

    private static void takes() {
        EndSums x = fiveItems();
        CHECK.due("front", x.takes(0, 0), 3);
        CHECK.row("front", x, 0);
        CHECK.due("front again", x.takes(0, 0), 5);
        // 7 9 8 are REBUILT: 2 in the FRONT STACK.
        CHECK.due("rebuilt", x.takes(0, 0), 7);
        CHECK.row("rebuilt", x, 3);
        CHECK.due("REBUILT", x.count(8), 1);
        CHECK.due("WORK", x.count(7), 8);
        CHECK.due("one in the FRONT STACK", Check.front(x, 0), 1);
        CHECK.due("back", x.takes(0, 1), 8);
        CHECK.due("back, rebuilt of one", x.takes(0, 1), 9);
        CHECK.row("back, rebuilt of one", x, 1);
        CHECK.due("REBUILT twice", x.count(8), 2);
        CHECK.due("none", x.takes(0, 1), -2);
        CHECK.row("ROW stays", x, 1);
        CHECK.due("no LINE", x.takes(4, 0), -1);
        CHECK.due("no LINE", x.takes(-1, 0), -1);
        CHECK.due("no END ahead of none there", x.takes(0, 2), -1);
        CHECK.due("no END", x.takes(0, -1), -1);
        EndSums y = new EndSums();
        for (int v = 1; v <= 5; v++) {
            y.puts(2, 0, v);
        }
        // 5 4 3 2 1 in the FRONT STACK: the BACK one gets 3.
        CHECK.due("back of five", y.takes(2, 1), 1);
        CHECK.row("back of five", y, 5);
        CHECK.due("two stay in front", Check.front(y, 2), 2);
    }

    private static void copies() {
        EndSums x = fiveItems();
        x.sum(0);
        CHECK.due("copies", x.copies(0, 2), 5);
        CHECK.items("copies", x, 2, 3, 5, 7, 9, 8);
        CHECK.due("WORK", x.count(7), 5);
        CHECK.due("as it lies", Check.front(x, 2), 2);
        CHECK.due("shared", x.shared(), 5);
        x.puts(0, 0, 1);
        x.takes(2, 1);
        CHECK.items("COPY by itself", x, 2, 3, 5, 7, 9);
        CHECK.items("LINE by itself", x, 0, 1, 3, 5, 7, 9, 8);
        x.sum(1);
        CHECK.due("of an empty one", x.copies(1, 2), 0);
        CHECK.due("in place of what it had", x.count(2), 0);
        CHECK.due("both one", x.copies(0, 0), -2);
        CHECK.due("no LINE", x.copies(4, 0), -1);
        CHECK.due("no LINE", x.copies(0, -1), -1);
        CHECK.due("no LINE, both one", x.copies(4, 4), -1);
        CHECK.row("copies() tells no ROW", x, 0, 0);
        CHECK.due("LINE 0 stays", x.count(0), 6);
    }

    private static void joins() {
        EndSums x = fiveItems();
        Check.fill(x, 1, 1, 2);
        int before = x.count(7);
        CHECK.due("joins", x.joins(1, 0), 7);
        // 5 are PUT; the COPY is REBUILT of 3 (3 5 go free), and of the last one.
        CHECK.row("joins", x, 5 + 3 + 1);
        CHECK.items("joins", x, 1, 1, 2, 3, 5, 7, 9, 8);
        CHECK.due("WORK", x.count(7), before + 9);
        CHECK.due("REBUILT", x.count(8), 2);
        CHECK.items("the other stays", x, 0, 3, 5, 7, 9, 8);
        CHECK.due("the other stays as it lies", Check.front(x, 0), 2);
        CHECK.due("an empty one", x.joins(0, 3), 5);
        CHECK.row("an empty one", x, 0);
        CHECK.due("itself", x.joins(0, 0), 10);
        CHECK.items("itself", x, 0, 3, 5, 7, 9, 8, 3, 5, 7, 9, 8);
        CHECK.due("no LINE", x.joins(0, 4), -1);
        CHECK.due("no LINE", x.joins(-1, 0), -1);
        EndSums full = fullLine();
        full.sum(1);
        CHECK.due("64 and none", full.joins(0, 1), 64);
        CHECK.due("none and 64", full.joins(1, 0), 64);
        full.takes(1, 0);
        full.sum(2);
        CHECK.due("too many", full.joins(0, 0), -3);
        CHECK.due("too many by one", full.joins(1, 0), -3);
        CHECK.row("ROW stays", full, 0, 0);
        full.clears(1);
        full.puts(1, 0, 1);
        CHECK.due("65", full.joins(0, 1), -3);
        CHECK.due("65, the other way", full.joins(1, 0), -3);
        full.takes(0, 0);
        CHECK.due("64", full.joins(1, 0), 64);
    }

    private static void parts() {
        EndSums x = fiveItems();
        Check.fill(x, 1, 1, 2);
        x.sum(1);
        int before = x.count(7);
        CHECK.due("parts", x.parts(0, 2, 1), 3);
        CHECK.items("first ones", x, 0, 3, 5);
        CHECK.items("the others", x, 1, 7, 9, 8);
        CHECK.due("WORK", x.count(7), before + 5);
        CHECK.due("REBUILT not", x.count(8), 0);
        CHECK.due("LAID 1", Check.front(x, 0), 1);
        CHECK.due("LAID 2", Check.front(x, 1), 2);
        x.sum(1);
        CHECK.due("all go", x.parts(1, 0, 2), 3);
        CHECK.due("none stay", x.count(1), 0);
        CHECK.due("none go", x.parts(2, 3, 0), 0);
        CHECK.due("in place of what it had", x.count(0), 0);
        CHECK.due("of an empty one", x.parts(0, 0, 3), 0);
        CHECK.due("both one", x.parts(2, 1, 2), -2);
        CHECK.due("fewer", x.parts(2, 4, 1), -3);
        CHECK.due("both one ahead of fewer", x.parts(2, 4, 2), -2);
        CHECK.due("k below 0", x.parts(2, -1, 1), -1);
        CHECK.due("k below 0 ahead of both one", x.parts(2, MIN, 2), -1);
        CHECK.due("k too great", x.parts(2, MAX, 1), -3);
        CHECK.due("no LINE", x.parts(4, 0, 1), -1);
        CHECK.due("no LINE", x.parts(0, 0, -1), -1);
        CHECK.row("parts() tells no ROW", x, 24, 3);
        CHECK.items("refused ones change nothing", x, 2, 7, 9, 8);
    }

    private static void reverses() {
        EndSums x = fiveItems();
        x.copies(0, 1);
        x.sum(0);
        CHECK.due("reverses", x.reverses(0), 5);
        CHECK.items("reverses", x, 0, 8, 9, 7, 5, 3);
        CHECK.due("STACKS the other way", Check.front(x, 0), 3);
        CHECK.due("WORK", x.count(7), 10);
        x.same(0, 1);
        CHECK.row("all anew", x, 1, 0);
        x.reverses(0);
        CHECK.items("twice", x, 0, 3, 5, 7, 9, 8);
        x.sum(2);
        CHECK.due("an empty one", x.reverses(2), 0);
        CHECK.due("no LINE", x.reverses(4), -1);
        CHECK.due("no LINE", x.reverses(-1), -1);
        CHECK.row("reverses() tells no ROW", x, 0, 0);
        x.rule(6);
        x.reverses(0);
        x.sum(0);
        CHECK.row("SUMMARY of the other way", x, 8, 3);
    }

    private static void changes() {
        EndSums x = fiveItems();
        x.copies(0, 1);
        CHECK.due("bottom of FRONT", x.changes(0, 1, 6), 5);
        CHECK.row("bottom of FRONT", x, 2);
        CHECK.due("top of FRONT", x.changes(0, 0, 4), 3);
        CHECK.row("top of FRONT", x, 1);
        x.same(0, 1);
        CHECK.row("BACK stays shared", x, 0, 3);
        CHECK.due("middle of BACK", x.changes(0, 3, 0), 9);
        CHECK.row("middle of BACK", x, 2);
        CHECK.due("bottom of BACK", x.changes(0, 2, 1), 7);
        CHECK.row("bottom of BACK", x, 3);
        CHECK.due("top of BACK", x.changes(0, 4, 2), 8);
        CHECK.row("top of BACK", x, 1);
        CHECK.items("changes", x, 0, 4, 6, 1, 0, 2);
        CHECK.items("the COPY stays", x, 1, 3, 5, 7, 9, 8);
        x.item(0, 4);
        CHECK.row("CELL above", x, 1, 0, 3, 3);
        CHECK.due("it is so", x.changes(0, 0, 4), -4);
        CHECK.due("none such", x.changes(0, 5, 4), -2);
        CHECK.due("none such", x.changes(0, -1, 4), -2);
        CHECK.due("no ITEM ahead of none such", x.changes(0, 5, 10000), -1);
        CHECK.due("no ITEM", x.changes(0, 0, -1), -1);
        CHECK.due("no LINE", x.changes(4, 0, 1), -1);
        CHECK.row("ROW stays", x, 1, 0, 3, 3);
        CHECK.due("WORK", x.count(7), 5 + 9);
    }

    private static void slips() {
        EndSums x = fiveItems();
        x.copies(0, 1);
        CHECK.due("behind the last one", x.slips(0, 5, 1), 6);
        CHECK.row("behind the last one", x, 1);
        CHECK.due("the first", x.slips(0, 0, 2), 7);
        CHECK.row("the first", x, 1);
        CHECK.items("slips", x, 0, 2, 3, 5, 7, 9, 8, 1);
        CHECK.due("upon the bottom of FRONT", x.slips(0, 2, 4), 8);
        CHECK.row("upon the bottom of FRONT", x, 3);
        CHECK.due("four in FRONT", Check.front(x, 0), 4);
        CHECK.due("the bottom of BACK", x.slips(0, 4, 6), 9);
        CHECK.row("the bottom of BACK", x, 5);
        CHECK.due("four in FRONT still", Check.front(x, 0), 4);
        CHECK.items("slips all", x, 0, 2, 3, 4, 5, 6, 7, 9, 8, 1);
        x.same(0, 1);
        CHECK.row("the bottom of FRONT stays", x, 0, 1);
        CHECK.due("into an empty one", x.slips(2, 0, 5), 1);
        CHECK.row("into an empty one", x, 1);
        CHECK.due("it lies in BACK", Check.front(x, 2), 0);
        x.sum(3);
        CHECK.due("no such i", x.slips(2, 2, 5), -2);
        CHECK.due("no such i", x.slips(2, -1, 5), -2);
        CHECK.due("no ITEM", x.slips(2, 9, 10000), -1);
        CHECK.due("no LINE", x.slips(-1, 0, 5), -1);
        CHECK.due("no LINE", x.slips(4, 0, 5), -1);
        CHECK.row("ROW stays", x, 0, 0);
        EndSums full = fullLine();
        CHECK.due("64", full.slips(0, 64, 5), -3);
        CHECK.due("64, the first", full.slips(0, 0, 5), -3);
        CHECK.due("no such i ahead of 64", full.slips(0, 65, 5), -2);
        full.takes(0, 1);
        CHECK.due("63", full.slips(0, 63, 5), 64);
        // FRONT alone has ITEMS: behind the last one is BACK.
        EndSums front = new EndSums();
        front.puts(0, 0, 1);
        front.puts(0, 0, 2);
        front.slips(0, 2, 3);
        CHECK.due("BACK behind the last of FRONT", Check.front(front, 0), 2);
    }

    private static void drops() {
        EndSums x = fiveItems();
        x.copies(0, 1);
        CHECK.due("bottom of BACK", x.drops(0, 2), 7);
        CHECK.row("bottom of BACK", x, 2);
        CHECK.due("top of FRONT", x.drops(0, 0), 3);
        CHECK.row("top of FRONT", x, 0);
        CHECK.items("drops", x, 0, 5, 9, 8);
        x.item(0, 2);
        CHECK.row("CELL above", x, 1, 0, 17, 2);
        x.same(0, 1);
        CHECK.row("bottom of FRONT stays", x, 0, 1);
        CHECK.due("the last of FRONT", x.drops(0, 0), 5);
        CHECK.due("none is REBUILT", Check.front(x, 0), 0);
        CHECK.due("the top of BACK", x.drops(0, 1), 8);
        CHECK.row("the top of BACK", x, 0);
        CHECK.due("the only one", x.drops(0, 0), 9);
        CHECK.due("none such", x.drops(0, 0), -2);
        CHECK.due("none such", x.drops(1, 5), -2);
        CHECK.due("none such", x.drops(1, -1), -2);
        CHECK.due("no LINE", x.drops(4, 0), -1);
        CHECK.due("no LINE", x.drops(MIN, 0), -1);
        CHECK.row("ROW stays", x, 0);
        CHECK.due("bottom of FRONT", x.drops(1, 1), 5);
        CHECK.row("bottom of FRONT", x, 1);
        CHECK.items("the COPY", x, 1, 3, 7, 9, 8);
        CHECK.due("REBUILT never", x.count(8), 0);
    }

    private static void shifts() {
        EndSums x = fiveItems();
        x.rule(6);
        CHECK.due("two, free", x.shifts(0, 0, 2), 2);
        CHECK.row("two, free", x, 7, 5);
        CHECK.items("two, free", x, 0, 7, 9, 8, 3, 5);
        // All five lie in BACK: REBUILT, then PUT.
        CHECK.due("one more", x.shifts(0, 0, 1), 6);
        CHECK.items("one more", x, 0, 9, 8, 3, 5, 7);
        CHECK.due("back", x.shifts(0, 1, 1), 1);
        CHECK.items("back", x, 0, 7, 9, 8, 3, 5);
        x.puts(1, 0, 4);
        // 64 times it is TAKEN from the empty STACK and PUT back there.
        CHECK.due("one ITEM to and fro", x.shifts(1, 1, 64), 128);
        CHECK.row("one ITEM to and fro", x, 4, 4);
        CHECK.due("REBUILT", x.count(8), 65);
        EndSums y = new EndSums();
        y.puts(0, 1, 4);
        CHECK.due("one ITEM from FRONT", y.shifts(0, 0, 2), 4);
        CHECK.due("it lies in BACK", Check.front(y, 0), 0);
        EndSums full = fullLine();
        // REBUILT of 64 at the first TAKE, and of 64 at the 33rd.
        CHECK.due("64 ITEMS", full.shifts(0, 0, 64), 64 + 64 + 64);
        CHECK.due("all round", Check.itemAt(full, 0, 0), 0);
        full.sum(1);
        CHECK.due("empty", full.shifts(1, 0, 1), -2);
        CHECK.due("no time ahead of empty", full.shifts(1, 0, 0), -1);
        CHECK.due("65 times", full.shifts(0, 0, 65), -1);
        CHECK.due("below 0", full.shifts(0, 0, MIN), -1);
        CHECK.due("no END", full.shifts(0, 2, 1), -1);
        CHECK.due("no LINE", full.shifts(4, 0, 1), -1);
        CHECK.row("ROW stays", full, 0, 0);
    }

    private static void clears() {
        EndSums x = fiveItems();
        x.copies(0, 1);
        x.sum(2);
        CHECK.due("clears", x.clears(0), 5);
        CHECK.due("none", x.count(0), 0);
        CHECK.due("again", x.clears(0), 0);
        CHECK.items("the COPY stays", x, 1, 3, 5, 7, 9, 8);
        x.sum(2);
        CHECK.due("no LINE", x.clears(4), -1);
        CHECK.due("no LINE", x.clears(-1), -1);
        CHECK.row("clears() tells no ROW", x, 0, 0);
        CHECK.due("WORK", x.count(7), 5);
        x.puts(0, 1, 2);
        x.sum(0);
        CHECK.row("new ones", x, 2, 1);
    }

    private static void acts() {
        EndSums x = new EndSums();
        CHECK.due("acts", Check.run(x, 3, "f1f2 b3  b40F"), 5);
        CHECK.row("acts", x, 0, 4, 44, 3);
        CHECK.due("emptied", x.count(10), 0);
        CHECK.items("acts", x, 3, 1, 3, 40);
        CHECK.due("blanks around", Check.run(x, 3, "  r  B "), 2);
        CHECK.row("blanks around", x, 0, 3, 43, 2);
        CHECK.items("blanks around", x, 3, 40, 3);
        CHECK.due("no ACT", Check.run(x, 3, ""), 0);
        CHECK.row("no ACT", x, 0, 0, 43, 2);
        CHECK.due("blanks alone", Check.run(x, 3, "   "), 0);
        CHECK.due("four digits", Check.run(x, 2, "b0012b9999f0"), 3);
        CHECK.items("four digits", x, 2, 0, 12, 9999);
        CHECK.due("none there", Check.run(x, 3, "FFFb7"), 2);
        CHECK.row("none there", x, 1, 0, 0, 0);
        CHECK.due("what came ahead is done", x.count(3), 0);
        CHECK.due("reverses an empty one", Check.run(x, 3, "rrB"), 2);
        CHECK.row("reverses an empty one", x, 1, 0, 0, 0);
        EndSums full = fullLine();
        full.takes(0, 1);
        CHECK.due("too many", Check.run(full, 0, "f5b6F"), 1);
        CHECK.row("too many", full, 1, 1, 62 * 63 / 2 + 5, 64);
        CHECK.due("64", full.count(0), 64);
        CHECK.due("too many in FRONT", Check.run(full, 0, "f5"), 0);
        CHECK.row("too many in FRONT", full, 1, 0, 62 * 63 / 2 + 5, 64);
        CHECK.due("100 signs", Check.run(full, 1, "f1b2F B r ".repeat(10)), 50);
        EndSums y = fiveItems();
        CHECK.due("REBUILT by ACTS", Check.run(y, 0, "FFFBB"), 5);
        // Of 7 9 8, and of the last one.
        CHECK.row("REBUILT by ACTS", y, 0, 3 + 1, 0, 0);
        CHECK.due("REBUILT", y.count(8), 2);
    }

    private static void wrongActs() {
        EndSums x = fiveItems();
        x.sum(1);
        String[] texts = {"x", "f", "b", "fx", "f12345", "b1 2", "f 1", "F1", "b1,b2", " f", "f1\u00e9", "f1 b2 f", "rr 1", "R", "f-1", "\tr", "r\u0000"};
        int[] want = {0, 1, 1, 1, 5, 3, 1, 1, 2, 2, 2, 7, 3, 0, 1, 0, 1};
        for (int i = 0; i < texts.length; i++) {
            CHECK.due("run of \"" + texts[i] + "\"", Check.run(x, 0, texts[i]), -21 - want[i]);
            CHECK.due("emptied", x.count(10), 0);
        }
        Check.text(x, "r".repeat(99) + "f");
        CHECK.due("its end behind 100 signs", x.run(0), -21 - 100);
        Check.text(x, "f1");
        CHECK.due("no LINE", x.run(4), -1);
        CHECK.due("emptied by a refused call", x.count(10), 0);
        Check.text(x, "x");
        CHECK.due("no LINE ahead of a wrong sign", x.run(-1), -1);
        CHECK.due("emptied again", x.count(10), 0);
        CHECK.due("WORK", x.count(7), 5);
        CHECK.row("ROW stays", x, 0, 0);
        CHECK.items("nothing is done", x, 0, 3, 5, 7, 9, 8);
    }

    private static void texts() {
        EndSums x = new EndSums();
        x.sum(0);
        CHECK.due("sign", x.sign('f' << 24 | '1' << 16 | '2' << 8 | ' '), 4);
        CHECK.due("sign behind", x.sign('b' << 24 | '3' << 16), 8);
        CHECK.due("end below 0", x.end(-1), false);
        CHECK.due("end of more", x.end(9), false);
        CHECK.due("end of MAX", x.end(MAX), false);
        CHECK.due("end of MIN", x.end(MIN), false);
        CHECK.due("signs", x.count(10), 8);
        CHECK.due("end of all", x.end(8), true);
        CHECK.due("end", x.end(6), true);
        CHECK.due("signs left", x.count(10), 6);
        CHECK.due("no more than are left", x.end(7), false);
        x.run(0);
        CHECK.items("the highest byte is first", x, 0, 12, 3);
        for (int i = 1; i <= 25; i++) {
            CHECK.due("sign number " + i, x.sign(-1), 4 * i);
        }
        CHECK.due("more than 100", x.sign(0), -1);
        CHECK.due("100 stay", x.count(10), 100);
        CHECK.due("end 97", x.end(97), true);
        CHECK.due("101 would be", x.sign(0), -1);
        CHECK.due("97 stay", x.count(10), 97);
        CHECK.due("end 96", x.end(96), true);
        CHECK.due("just 100", x.sign(0), 100);
        CHECK.due("end 0", x.end(0), true);
        CHECK.due("none", x.count(10), 0);
        CHECK.due("none left", x.end(1), false);
        CHECK.due("signs of 255", x.sign(-1), 4);
        CHECK.due("can't stand", x.run(0), -21);
        // Eight signs, of which one that was cut does not come again.
        Check.text(x, "b4567");
        x.end(2);
        x.sign(' ' << 24 | ' ' << 16 | ' ' << 8 | ' ');
        x.run(1);
        CHECK.items("what was cut is gone", x, 1, 4);
    }

    public static void main(String[] args) {
        puts();
        takes();
        copies();
        joins();
        parts();
        reverses();
        changes();
        slips();
        drops();
        shifts();
        clears();
        acts();
        wrongActs();
        texts();
        CHECK.close("LinesTest");
    }
}
