import java.util.NoSuchElementException;

/** The calls of the face by number, on an object and on the model of the document. */
final class Calls {
    static final int SIGN = 33;
    static final int END = 34;

    private Calls() {
    }

    static long ofObject(EndSums x, int what, int a, int b, int c) {
        try {
            switch (what) {
                case 0: return x.rule(a);
                case 1: return x.table();
                case 2: return x.commutes(a, b);
                case 3: return x.powers(a, b);
                case 4: return x.order(a);
                case 5: return x.undoes(a);
                case 6: return x.puts(a, b, c);
                case 7: return x.takes(a, b);
                case 8: return x.copies(a, b);
                case 9: return x.joins(a, b);
                case 10: return x.parts(a, b, c);
                case 11: return x.reverses(a);
                case 12: return x.changes(a, b, c);
                case 13: return x.slips(a, b, c);
                case 14: return x.drops(a, b);
                case 15: return x.shifts(a, b, c);
                case 16: return x.clears(a);
                case 17: return x.run(a);
                case 18: return x.sum(a);
                case 19: return x.item(a, b);
                case 20: return x.part(a, b, c);
                case 21: return x.windows(a, b);
                case 22: return x.first(a, b);
                case 23: return x.longest(a, b);
                case 24: return x.greatest(a, b);
                case 25: return x.finds(a, b, c);
                case 26: return x.drains(a);
                case 27: return x.unlike(a);
                case 28: return x.same(a, b);
                case 29: return x.shared();
                case 30: return x.would(a, b);
                case 31: return x.dearest(a, b);
                case 32: return x.count(a);
                case 33: return x.sign(a);
                case 34: return x.end(a) ? 1 : 0;
                default: return x.row(a);
            }
        } catch (NoSuchElementException e) {
            return Check.THROWN;
        }
    }

    static long ofModel(Model m, int what, int a, int b, int c) {
        try {
            switch (what) {
                case 0: return m.rule(a);
                case 1: return m.table();
                case 2: return m.commutes(a, b);
                case 3: return m.powers(a, b);
                case 4: return m.order(a);
                case 5: return m.undoes(a);
                case 6: return m.puts(a, b, c);
                case 7: return m.takes(a, b);
                case 8: return m.copies(a, b);
                case 9: return m.joins(a, b);
                case 10: return m.parts(a, b, c);
                case 11: return m.reverses(a);
                case 12: return m.changes(a, b, c);
                case 13: return m.slips(a, b, c);
                case 14: return m.drops(a, b);
                case 15: return m.shifts(a, b, c);
                case 16: return m.clears(a);
                case 17: return m.run(a);
                case 18: return m.sum(a);
                case 19: return m.item(a, b);
                case 20: return m.part(a, b, c);
                case 21: return m.windows(a, b);
                case 22: return m.first(a, b);
                case 23: return m.longest(a, b);
                case 24: return m.greatest(a, b);
                case 25: return m.finds(a, b, c);
                case 26: return m.drains(a);
                case 27: return m.unlike(a);
                case 28: return m.same(a, b);
                case 29: return m.shared();
                case 30: return m.would(a, b);
                case 31: return m.dearest(a, b);
                case 32: return m.count(a);
                case 33: return m.sign(a);
                case 34: return m.end(a) ? 1 : 0;
                default: return m.row(a);
            }
        } catch (NoSuchElementException e) {
            return Check.THROWN;
        }
    }
}
