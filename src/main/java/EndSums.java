import java.util.NoSuchElementException;

/** Lines that grow and shrink at both ends and always know their summary by a rule of joining. */
public final class EndSums {
    public static final int NONE = -1;

    private static final int IT_IS_SO = -2;
    private static final int NONE_THERE = -2;
    private static final int BOTH_ARE_ONE = -2;
    private static final int TOO_MANY = -3;
    private static final int TOO_FEW = -3;
    private static final int UNCHANGED = -4;
    private static final int NOT_ALIKE = -10;
    private static final int NO_NEUTRAL = -11;
    private static final int WRONG_SIGN = -21;

    private static final int FRONT = 0;
    private static final int BACK = 1;
    private static final int LINES = 4;
    private static final int MOST_ITEMS = 64;
    private static final int LAST_ITEM = 9999;
    private static final int LAST_RULE = 7;
    private static final int TABLE_RULE = 7;
    private static final int LONGEST_TEXT = 100;
    private static final int LONGEST_TABLE = 5;
    private static final int MOST_NUMBERS = 128;
    private static final int GREATEST_POWER = 1000000000;
    private static final int LONGEST_ORDER = 128;
    private static final int MOST_TAKES = 12;

    private final Joining joining;
    private final Works works;
    private final Line[] lines;
    private final Line spare;
    private final Table fresh;
    private final Text text;
    private final Takings takings;
    private final long[] told;
    private int toldCount;
    // SUMMARIES that a question goes through, made once and used again by each.
    private final long[] sumsP;
    private final long[] sumsQ;

    public EndSums() {
        joining = new Joining();
        works = new Works(joining);
        lines = new Line[LINES];
        for (int i = 0; i < lines.length; i++) {
            lines[i] = new Line();
        }
        spare = new Line();
        fresh = new Table();
        text = new Text();
        takings = new Takings();
        told = new long[MOST_NUMBERS];
        sumsP = new long[LONGEST_ORDER + 1];
        sumsQ = new long[LONGEST_ORDER + 1];
    }

    // ---- rules

    public int rule(int r) {
        if (r < 0 || r > LAST_RULE) {
            return NONE;
        }
        int was = joining.kind;
        if (r == was) {
            return IT_IS_SO;
        }
        joining.kind = r;
        layAllAnew();
        return was;
    }

    public int table() {
        int wrong = text.firstWrongInTable();
        if (wrong == NONE) {
            fresh.read(text);
        }
        text.length = 0;
        if (wrong != NONE) {
            return WRONG_SIGN - wrong;
        }
        int unlike = fresh.firstNotAlike();
        if (unlike != NONE) {
            tell(unlike / 100, unlike / 10 % 10, unlike % 10);
            return NOT_ALIKE;
        }
        if (fresh.neutral == NONE) {
            return NO_NEUTRAL;
        }
        joining.table.become(fresh);
        if (joining.kind == TABLE_RULE) {
            layAllAnew();
        }
        return fresh.n;
    }

    public int commutes(int v, int u) {
        if (!isItem(v) || !isItem(u)) {
            return NONE;
        }
        joining.start(v);
        joining.follow(u);
        long p = joining.p;
        long q = joining.q;
        joining.start(u);
        joining.follow(v);
        boolean alike = joining.comesTo(p, q);
        tell(p, q, joining.p, joining.q);
        return alike ? 1 : 0;
    }

    public int powers(int v, int n) {
        if (!isItem(v) || n < 0 || n > GREATEST_POWER) {
            return NONE;
        }
        int joined = joining.power(v, n);
        tell(joining.p, joining.q);
        return joined;
    }

    public int order(int v) {
        if (!isItem(v)) {
            return NONE;
        }
        joining.startEmpty();
        for (int n = 1; n <= LONGEST_ORDER; n++) {
            joining.follow(v);
            keepSum(n);
            int fewer = firstSumLike(n);
            if (fewer < n) {
                tell(fewer);
                return n;
            }
        }
        return NONE_THERE;
    }

    public int undoes(int v) {
        if (!isItem(v)) {
            return NONE;
        }
        int unlike = joining.unlikeItems();
        for (int u = 0; u < unlike; u++) {
            if (joining.undo(v, u) && joining.undo(u, v)) {
                return u;
            }
        }
        return NONE_THERE;
    }

    // ---- lines

    public int puts(int line, int end, int v) {
        Line l = lineAt(line);
        if (l == null || !isEnd(end) || !isItem(v)) {
            return NONE;
        }
        if (l.size() >= MOST_ITEMS) {
            return TOO_MANY;
        }
        works.put(l, end, v);
        return l.size();
    }

    public int takes(int line, int end) {
        Line l = lineAt(line);
        if (l == null || !isEnd(end)) {
            return NONE;
        }
        if (l.size() == 0) {
            return NONE_THERE;
        }
        int before = works.made;
        int v = works.take(l, end);
        tell(works.made - before);
        return v;
    }

    public int copies(int line, int to) {
        Line l = lineAt(line);
        Line t = lineAt(to);
        if (l == null || t == null) {
            return NONE;
        }
        if (line == to) {
            return BOTH_ARE_ONE;
        }
        t.become(l);
        return t.size();
    }

    public int joins(int line, int other) {
        Line l = lineAt(line);
        Line o = lineAt(other);
        if (l == null || o == null) {
            return NONE;
        }
        int more = o.size();
        if (l.size() + more > MOST_ITEMS) {
            return TOO_MANY;
        }
        int before = works.made;
        spare.become(o);
        for (int i = 0; i < more; i++) {
            works.put(l, BACK, works.take(spare, FRONT));
        }
        tell(works.made - before);
        return l.size();
    }

    public int parts(int line, int k, int to) {
        Line l = lineAt(line);
        Line t = lineAt(to);
        if (l == null || t == null || k < 0) {
            return NONE;
        }
        if (line == to) {
            return BOTH_ARE_ONE;
        }
        if (l.size() < k) {
            return TOO_FEW;
        }
        works.split(l, k, t);
        return t.size();
    }

    public int reverses(int line) {
        Line l = lineAt(line);
        if (l == null) {
            return NONE;
        }
        works.turn(l);
        return l.size();
    }

    public int changes(int line, int i, int v) {
        Line l = lineAt(line);
        if (l == null || !isItem(v)) {
            return NONE;
        }
        if (i < 0 || i >= l.size()) {
            return NONE_THERE;
        }
        int was = l.itemAt(i);
        if (was == v) {
            return UNCHANGED;
        }
        int before = works.made;
        int end = l.endOf(i);
        int height = l.heightOf(i);
        works.remake(l.pile(end), end, height, v, height + 1);
        tell(works.made - before);
        return was;
    }

    public int slips(int line, int i, int v) {
        Line l = lineAt(line);
        if (l == null || !isItem(v)) {
            return NONE;
        }
        if (i < 0 || i > l.size()) {
            return NONE_THERE;
        }
        if (l.size() >= MOST_ITEMS) {
            return TOO_MANY;
        }
        int before = works.made;
        int end = l.endOf(i);
        // In the FRONT STACK the one that was number i comes to lie below the new one.
        int height = end == FRONT ? l.heightOf(i) + 1 : l.heightOf(i);
        works.remake(l.pile(end), end, height, v, height);
        tell(works.made - before);
        return l.size();
    }

    public int drops(int line, int i) {
        Line l = lineAt(line);
        if (l == null) {
            return NONE;
        }
        if (i < 0 || i >= l.size()) {
            return NONE_THERE;
        }
        int v = l.itemAt(i);
        int before = works.made;
        int end = l.endOf(i);
        int height = l.heightOf(i);
        works.remake(l.pile(end), end, height, NONE, height + 1);
        tell(works.made - before);
        return v;
    }

    public int shifts(int line, int end, int n) {
        Line l = lineAt(line);
        if (l == null || !isEnd(end) || n < 1 || n > MOST_ITEMS) {
            return NONE;
        }
        if (l.size() == 0) {
            return NONE_THERE;
        }
        int before = works.made;
        for (int i = 0; i < n; i++) {
            works.put(l, BACK - end, works.take(l, end));
        }
        sumUp(l, 0, l.size());
        tell(joining.p, joining.q);
        return works.made - before;
    }

    public int clears(int line) {
        Line l = lineAt(line);
        if (l == null) {
            return NONE;
        }
        int had = l.size();
        l.front.size = 0;
        l.back.size = 0;
        return had;
    }

    public int run(int line) {
        Line l = lineAt(line);
        int length = text.length;
        int wrong = text.firstWrongInActs();
        text.length = 0;
        if (l == null) {
            return NONE;
        }
        if (wrong != NONE) {
            return WRONG_SIGN - wrong;
        }
        int before = works.made;
        int done = 0;
        int stopped = 0;
        for (int p = 0; p < length && stopped == 0; p++) {
            if (text.isAct(p)) {
                boolean could = act(l, text.signAt(p), text.itemBehind(p, length));
                done += could ? 1 : 0;
                stopped = could ? 0 : 1;
            }
        }
        sumUp(l, 0, l.size());
        tell(stopped, works.made - before, joining.p, joining.q);
        return done;
    }

    public int sign(int v) {
        if (text.length + 4 > LONGEST_TEXT) {
            return NONE;
        }
        for (int shift = 24; shift >= 0; shift -= 8) {
            text.grow(v >> shift & 255);
        }
        return text.length;
    }

    public boolean end(int n) {
        if (n < 0 || n > text.length) {
            return false;
        }
        text.length = n;
        return true;
    }

    // ---- what is asked

    public int sum(int line) {
        Line l = lineAt(line);
        if (l == null) {
            return NONE;
        }
        sumUp(l, 0, l.size());
        tell(joining.p, joining.q);
        return l.size();
    }

    public int item(int line, int i) throws NoSuchElementException {
        Line l = lineAt(line);
        if (l == null || i < 0 || i >= l.size()) {
            throw new NoSuchElementException("no such item");
        }
        int end = l.endOf(i);
        int height = l.heightOf(i);
        Pile pile = l.pile(end);
        tell(end, pile.size - 1 - height, at(pile.ps, height), at(pile.qs, height));
        return l.itemAt(i);
    }

    public int part(int line, int i, int j) {
        Line l = lineAt(line);
        if (l == null) {
            return NONE;
        }
        if (i < 0 || j < i || j > l.size()) {
            return NONE_THERE;
        }
        sumUp(l, i, j);
        tell(joining.p, joining.q);
        return j - i;
    }

    public int windows(int line, int w) {
        Line l = lineAt(line);
        if (l == null || w < 1 || w > MOST_ITEMS) {
            return NONE;
        }
        int windows = l.size() - w + 1;
        if (windows < 1) {
            return NONE_THERE;
        }
        toldCount = 0;
        for (int i = 0; i < windows; i++) {
            sumUp(l, i, i + w);
            tellMore(joining.p);
            tellMore(joining.q);
        }
        return windows;
    }

    public int first(int line, int v) {
        Line l = lineAt(line);
        if (l == null) {
            return NONE;
        }
        joining.startEmpty();
        for (int i = 0; i < l.size(); i++) {
            joining.follow(l.itemAt(i));
            if (joining.p >= v) {
                tell(joining.p, joining.q);
                return i + 1;
            }
        }
        return NONE_THERE;
    }

    public int longest(int line, int v) {
        Line l = lineAt(line);
        if (l == null) {
            return NONE;
        }
        int most = 0;
        int place = NONE;
        for (int length = 1; length <= l.size(); length++) {
            stretch(l, length);
            int i = firstAtMost(v, l.size() - length + 1);
            if (i != NONE) {
                most = length;
                place = i;
            }
        }
        tell(place);
        return most;
    }

    public int greatest(int line, int w) {
        Line l = lineAt(line);
        if (l == null || w < 1 || w > MOST_ITEMS) {
            return NONE;
        }
        if (l.size() < w) {
            return NONE_THERE;
        }
        int place = NONE;
        long p = 0;
        long q = 0;
        for (int i = 0; i + w <= l.size(); i++) {
            sumUp(l, i, i + w);
            if (place == NONE || joining.q > q) {
                place = i;
                p = joining.p;
                q = joining.q;
            }
        }
        tell(p, q);
        return place;
    }

    public int finds(int line, int p, int q) {
        Line l = lineAt(line);
        if (l == null) {
            return NONE;
        }
        for (int length = 1; length <= l.size(); length++) {
            stretch(l, length);
            int stretches = l.size() - length + 1;
            int found = sumsJust(p, q, stretches);
            if (found > 0) {
                tell(firstJust(p, q, stretches), found);
                return length;
            }
        }
        return NONE_THERE;
    }

    public int drains(int line) {
        Line l = lineAt(line);
        if (l == null) {
            return NONE;
        }
        int fromFront = Takings.drain(l.front.size, l.back.size);
        int fromBack = Takings.drain(l.back.size, l.front.size);
        int end = fromBack < fromFront ? BACK : FRONT;
        tell(end, fromFront, fromBack);
        return end == FRONT ? fromFront : fromBack;
    }

    public int unlike(int line) {
        Line l = lineAt(line);
        if (l == null) {
            return NONE;
        }
        sumFirsts(l);
        int unlike = 0;
        int most = 0;
        int mostAt = 0;
        for (int k = 1; k <= l.size(); k++) {
            if (firstSumLike(k) == k) {
                unlike++;
                int like = sumsLike(k, l.size());
                mostAt = like > most ? k : mostAt;
                most = Math.max(like, most);
            }
        }
        toldCount = 0;
        if (most > 0) {
            tell(at(sumsP, mostAt), at(sumsQ, mostAt), most);
        }
        return unlike;
    }

    public int same(int line, int other) {
        Line l = lineAt(line);
        Line o = lineAt(other);
        if (l == null || o == null) {
            return NONE;
        }
        sumUp(l, 0, l.size());
        long p = joining.p;
        long q = joining.q;
        sumUp(o, 0, o.size());
        tell(joining.comesTo(p, q) ? 1 : 0, l.cellsSharedWith(o));
        return l.hasItemsOf(o) ? 1 : 0;
    }

    public int shared() {
        int unlike = 0;
        int several = 0;
        int items = 0;
        for (int line = 0; line < LINES; line++) {
            Line l = lineAt(line);
            int size = l == null ? 0 : l.size();
            items += size;
            for (int i = 0; i < size; i++) {
                int holders = linesWithCell(l, i, LINES);
                int earlier = linesWithCell(l, i, line);
                unlike += earlier == 0 ? 1 : 0;
                several += earlier == 0 && holders > 1 ? 1 : 0;
            }
        }
        tell(several, items);
        return unlike;
    }

    public int would(int line, int end) {
        Line l = lineAt(line);
        if (l == null || !isEnd(end)) {
            return NONE;
        }
        if (l.size() == 0) {
            return NONE_THERE;
        }
        int front = Takings.frontBehind(l.front.size, l.size(), end);
        tell(front, l.size() - 1 - front);
        return Takings.cost(l.front.size, l.size(), end);
    }

    public int dearest(int line, int n) {
        Line l = lineAt(line);
        if (l == null || n < 1 || n > MOST_TAKES) {
            return NONE;
        }
        if (l.size() < n) {
            return NONE_THERE;
        }
        takings.seek(l.front.size, l.size(), n);
        tell(takings.dearestEnds);
        return takings.dearestCost;
    }

    public int count(int what) {
        switch (what) {
            case 0:
            case 1:
            case 2:
            case 3:
                Line l = lineAt(what);
                return l == null ? NONE : l.size();
            case 4:
                return joining.kind;
            case 5:
                return joining.table.n;
            case 6:
                return joining.table.neutral;
            case 7:
                return works.made;
            case 8:
                return works.rebuilt;
            case 9:
                return toldCount;
            case 10:
                return text.length;
            default:
                return NONE;
        }
    }

    public long row(int i) throws NoSuchElementException {
        if (i < 0 || i >= toldCount || i >= told.length) {
            throw new NoSuchElementException("no such number");
        }
        return told[i];
    }

    // ---- what the calls share

    private Line lineAt(int line) {
        return line < 0 || line >= lines.length ? null : lines[line];
    }

    private static boolean isEnd(int end) {
        return end == FRONT || end == BACK;
    }

    private static boolean isItem(int v) {
        return v >= 0 && v <= LAST_ITEM;
    }

    private static int at(int[] row, int i) {
        return i < 0 || i >= row.length ? 0 : row[i];
    }

    private static long at(long[] row, int i) {
        return i < 0 || i >= row.length ? 0 : row[i];
    }

    private static void set(int[] row, int i, int v) {
        if (i >= 0 && i < row.length) {
            row[i] = v;
        }
    }

    private static void set(long[] row, int i, long v) {
        if (i >= 0 && i < row.length) {
            row[i] = v;
        }
    }

    private void tellMore(long number) {
        if (toldCount >= 0 && toldCount < told.length) {
            told[toldCount] = number;
            toldCount++;
        }
    }

    private void tell(long a) {
        toldCount = 0;
        tellMore(a);
    }

    private void tell(long a, long b) {
        tell(a);
        tellMore(b);
    }

    private void tell(long a, long b, long c) {
        tell(a, b);
        tellMore(c);
    }

    private void tell(long a, long b, long c, long d) {
        tell(a, b, c);
        tellMore(d);
    }

    private void layAllAnew() {
        for (int line = 0; line < lines.length; line++) {
            Line l = lineAt(line);
            if (l != null) {
                works.layAsItLies(l);
            }
        }
    }

    /** Does one ACT, if it can be done: whether it could. */
    private boolean act(Line l, int sign, int v) {
        boolean puts = sign == 'f' || sign == 'b';
        if (sign == 'r') {
            works.turn(l);
            return true;
        }
        if (puts ? l.size() >= MOST_ITEMS : l.size() == 0) {
            return false;
        }
        int end = sign == 'f' || sign == 'F' ? FRONT : BACK;
        if (puts) {
            works.put(l, end, v);
        } else {
            works.take(l, end);
        }
        return true;
    }

    /** Brings the joining to the SUMMARY of ITEMS from .. to less 1. */
    private void sumUp(Line l, int from, int to) {
        joining.startEmpty();
        for (int i = from; i < to; i++) {
            joining.follow(l.itemAt(i));
        }
    }

    private void keepSum(int i) {
        set(sumsP, i, joining.p);
        set(sumsQ, i, joining.q);
    }

    /** Keeps the SUMMARY of the first k ITEMS at each k from 1 on. */
    private void sumFirsts(Line l) {
        joining.startEmpty();
        for (int k = 1; k <= l.size(); k++) {
            joining.follow(l.itemAt(k - 1));
            keepSum(k);
        }
    }

    /** Keeps the SUMMARY of each stretch of that length at its first place, out of those one shorter. */
    private void stretch(Line l, int length) {
        for (int i = 0; i + length <= l.size(); i++) {
            if (length == 1) {
                joining.startEmpty();
            } else {
                joining.startWith(at(sumsP, i), at(sumsQ, i));
            }
            joining.follow(l.itemAt(i + length - 1));
            keepSum(i);
        }
    }

    private boolean sumIsJust(int i, long p, long q) {
        return at(sumsP, i) == p && at(sumsQ, i) == q;
    }

    /** The first kept SUMMARY, from 1 on, that is like that at i. */
    private int firstSumLike(int i) {
        for (int k = 1; k < i; k++) {
            if (sumIsJust(k, at(sumsP, i), at(sumsQ, i))) {
                return k;
            }
        }
        return i;
    }

    /** How many of the kept SUMMARIES i .. last are like that at i. */
    private int sumsLike(int i, int last) {
        int like = 0;
        for (int k = i; k <= last; k++) {
            if (sumIsJust(k, at(sumsP, i), at(sumsQ, i))) {
                like++;
            }
        }
        return like;
    }

    private int sumsJust(long p, long q, int sums) {
        int just = 0;
        for (int i = 0; i < sums; i++) {
            just += sumIsJust(i, p, q) ? 1 : 0;
        }
        return just;
    }

    private int firstJust(long p, long q, int sums) {
        for (int i = 0; i < sums; i++) {
            if (sumIsJust(i, p, q)) {
                return i;
            }
        }
        return NONE;
    }

    private int firstAtMost(int v, int sums) {
        for (int i = 0; i < sums; i++) {
            if (at(sumsP, i) <= v) {
                return i;
            }
        }
        return NONE;
    }

    /** In how many of the LINES below that number the CELL of ITEM i lies. */
    private int linesWithCell(Line l, int i, int below) {
        int holders = 0;
        for (int line = 0; line < below; line++) {
            Line o = lineAt(line);
            holders += o != null && o.hasCell(l.endOf(i), l.heightOf(i), l.markOf(i)) ? 1 : 0;
        }
        return holders;
    }

    /** A STACK: its CELLS from the lowest one on, each with its ITEM, its SUMMARY and the mark by which it is told from others. */
    private static final class Pile {
        private int size;
        private final int[] items = new int[MOST_ITEMS];
        private final long[] ps = new long[MOST_ITEMS];
        private final long[] qs = new long[MOST_ITEMS];
        private final int[] marks = new int[MOST_ITEMS];

        private void grow(int v, long p, long q, int mark) {
            if (size < MOST_ITEMS) {
                set(items, size, v);
                set(ps, size, p);
                set(qs, size, q);
                set(marks, size, mark);
                size++;
            }
        }

        // CELLS never change, so a STACK with the same marks has the same CELLS.
        private void become(Pile other) {
            size = 0;
            for (int i = 0; i < other.size; i++) {
                grow(at(other.items, i), at(other.ps, i), at(other.qs, i), at(other.marks, i));
            }
        }

        private boolean has(int height, int mark) {
            return height >= 0 && height < size && at(marks, height) == mark;
        }
    }

    /** A LINE: its two STACKS. */
    private static final class Line {
        private final Pile front = new Pile();
        private final Pile back = new Pile();

        private int size() {
            return front.size + back.size;
        }

        private Pile pile(int end) {
            return end == FRONT ? front : back;
        }

        /** The STACK in which ITEM i lies; BACK behind the last one. */
        private int endOf(int i) {
            return i < front.size ? FRONT : BACK;
        }

        /** How many CELLS lie below that of ITEM i. */
        private int heightOf(int i) {
            return i < front.size ? front.size - 1 - i : i - front.size;
        }

        private int itemAt(int i) {
            return at(pile(endOf(i)).items, heightOf(i));
        }

        private int markOf(int i) {
            return at(pile(endOf(i)).marks, heightOf(i));
        }

        private void become(Line other) {
            front.become(other.front);
            back.become(other.back);
        }

        // What lies below a CELL never changes, so it has one END and one height in all LINES.
        private boolean hasCell(int end, int height, int mark) {
            return pile(end).has(height, mark);
        }

        private int cellsSharedWith(Line other) {
            int cells = 0;
            for (int i = 0; i < size(); i++) {
                cells += other.hasCell(endOf(i), heightOf(i), markOf(i)) ? 1 : 0;
            }
            return cells;
        }

        private boolean hasItemsOf(Line other) {
            boolean alike = size() == other.size();
            for (int i = 0; i < size() && alike; i++) {
                alike = itemAt(i) == other.itemAt(i);
            }
            return alike;
        }
    }

    /** All that makes CELLS, and counts them. */
    private static final class Works {
        private final Joining joining;
        private int made;
        private int rebuilt;
        // ITEMS while the CELLS that they lay in go and new ones come.
        private final int[] held = new int[MOST_ITEMS];

        private Works(Joining joining) {
            this.joining = joining;
        }

        private void make(Pile pile, int end, int v) {
            int top = pile.size - 1;
            long p = top < 0 ? joining.emptyP() : at(pile.ps, top);
            long q = top < 0 ? joining.emptyQ() : at(pile.qs, top);
            if (end == FRONT) {
                joining.join(joining.elementP(v), joining.elementQ(v), p, q);
            } else {
                joining.join(p, q, joining.elementP(v), joining.elementQ(v));
            }
            made++;
            pile.grow(v, joining.p, joining.q, made);
        }

        private void put(Line l, int end, int v) {
            make(l.pile(end), end, v);
        }

        private void hold(Line l) {
            for (int i = 0; i < l.size(); i++) {
                set(held, i, l.itemAt(i));
            }
        }

        /** Lays n held ITEMS from one on, the first f of them in the FRONT STACK. */
        private void lay(Line l, int from, int n, int f) {
            l.front.size = 0;
            l.back.size = 0;
            for (int i = f - 1; i >= 0; i--) {
                make(l.front, FRONT, at(held, from + i));
            }
            for (int i = f; i < n; i++) {
                make(l.back, BACK, at(held, from + i));
            }
        }

        private void layAsItLies(Line l) {
            hold(l);
            lay(l, 0, l.size(), l.front.size);
        }

        /** Takes an ITEM from an END of a LINE that has one. */
        private int take(Line l, int end) {
            Pile pile = l.pile(end);
            int n = l.size();
            if (pile.size == 0 && n > 0) {
                int half = (n + 1) / 2;
                hold(l);
                lay(l, 0, n, end == FRONT ? half : n - half);
                rebuilt++;
            }
            if (pile.size == 0) {
                return NONE;
            }
            pile.size--;
            return at(pile.items, pile.size);
        }

        private void split(Line l, int k, Line to) {
            int others = l.size() - k;
            hold(l);
            lay(l, 0, k, (k + 1) / 2);
            lay(to, k, others, (others + 1) / 2);
        }

        private void turn(Line l) {
            int n = l.size();
            for (int i = 0; i < n; i++) {
                set(held, n - 1 - i, l.itemAt(i));
            }
            lay(l, 0, n, l.back.size);
        }

        /** Lets the lowest CELLS stay, puts ITEM v upon them (NONE: no ITEM), and makes anew those that stood at a height and above. */
        private void remake(Pile pile, int end, int stay, int v, int height) {
            int above = pile.size - height;
            for (int i = 0; i < above; i++) {
                set(held, i, at(pile.items, height + i));
            }
            pile.size = stay;
            if (v != NONE) {
                make(pile, end, v);
            }
            for (int i = 0; i < above; i++) {
                make(pile, end, at(held, i));
            }
        }
    }

    /** The RULES: ELEMENTS and how they are JOINED; what came of it stands in p and q. */
    private static final class Joining {
        private static final int MODULUS = 101;
        private static final int BRACKETS = 10;
        private static final int EMPTY_LEAST = 10000;
        private static final int PLACES = 4;
        private static final int ARRANGED = 24;
        private static final int LONGEST_DIVISION = 100;
        // What each ARRANGEMENT has at its places, in four bits a place, place 0 highest.
        private static final int[] ARRANGEMENTS = {
            0x0123, 0x0132, 0x0213, 0x0231, 0x0312, 0x0321,
            0x1023, 0x1032, 0x1203, 0x1230, 0x1302, 0x1320,
            0x2013, 0x2031, 0x2103, 0x2130, 0x2301, 0x2310,
            0x3012, 0x3021, 0x3102, 0x3120, 0x3201, 0x3210,
        };

        private int kind;
        private final Table table = new Table();
        private long p;
        private long q;

        private void startWith(long p0, long q0) {
            p = p0;
            q = q0;
        }

        private boolean comesTo(long p0, long q0) {
            return p == p0 && q == q0;
        }

        private void startEmpty() {
            startWith(emptyP(), emptyQ());
        }

        private void start(int v) {
            startWith(elementP(v), elementQ(v));
        }

        /** Joins p, q and the ELEMENT of an ITEM behind it. */
        private void follow(int v) {
            join(p, q, elementP(v), elementQ(v));
        }

        private long emptyP() {
            switch (kind) {
                case 1:
                    return EMPTY_LEAST;
                case 3:
                    return 1;
                case 6:
                    return NONE;
                case 7:
                    return table.neutral;
                default:
                    return 0;
            }
        }

        private long emptyQ() {
            return kind == 1 || kind == 6 ? NONE : 0;
        }

        private long elementP(int v) {
            switch (kind) {
                case 3:
                    return v / MODULUS % MODULUS;
                case 4:
                    return v % 2 == 0 ? 0 : v / 2 % BRACKETS;
                case 5:
                    return v % ARRANGED;
                case 7:
                    return table.kindOf(v);
                default:
                    return v;
            }
        }

        private long elementQ(int v) {
            switch (kind) {
                case 0:
                    return 1;
                case 3:
                    return v % MODULUS;
                case 4:
                    return v % 2 == 0 ? v / 2 % BRACKETS : 0;
                case 5:
                    return leaps(arrangement(v % ARRANGED)) % 2;
                case 7:
                    return 0;
                default:
                    return v;
            }
        }

        private void join(long p1, long q1, long p2, long q2) {
            switch (kind) {
                case 0:
                    startWith(p1 + p2, q1 + q2);
                    break;
                case 1:
                    startWith(Math.min(p1, p2), Math.max(q1, q2));
                    break;
                case 2:
                    startWith(greatestDivisor(p1, p2), q1 ^ q2);
                    break;
                case 3:
                    startWith(p1 * p2 % MODULUS, (p2 * q1 + q2) % MODULUS);
                    break;
                case 4:
                    long met = Math.min(q1, p2);
                    startWith(p1 + p2 - met, q1 + q2 - met);
                    break;
                case 5:
                    startWith(arranged(arrangement((int) p1), arrangement((int) p2)), (q1 + q2) % 2);
                    break;
                case 6:
                    startWith(p1 == NONE ? p2 : p1, p2 == NONE ? q1 : q2);
                    break;
                default:
                    startWith(table.entry((int) p1, (int) p2), 0);
                    break;
            }
        }

        private static long greatestDivisor(long a, long b) {
            long greater = a;
            long lesser = b;
            for (int i = 0; i < LONGEST_DIVISION && lesser != 0; i++) {
                long rest = greater % lesser;
                greater = lesser;
                lesser = rest;
            }
            return greater;
        }

        private static int arrangement(int k) {
            return k < 0 || k >= ARRANGEMENTS.length ? 0 : ARRANGEMENTS[k];
        }

        private static int leaps(int arrangement) {
            int leaps = 0;
            for (int i = 0; i < PLACES; i++) {
                for (int j = 0; j < i; j++) {
                    leaps += (arrangement >> 4 * i & 15) > (arrangement >> 4 * j & 15) ? 1 : 0;
                }
            }
            return leaps;
        }

        /** The number of the ARRANGEMENT that has at each place what the second has at the place that the first has there. */
        private static int arranged(int first, int second) {
            int both = 0;
            for (int i = PLACES - 1; i >= 0; i--) {
                int place = first >> 4 * i & 15;
                both = both << 4 | second >> 4 * (PLACES - 1 - place) & 15;
            }
            for (int k = 0; k < ARRANGEMENTS.length; k++) {
                if (ARRANGEMENTS[k] == both) {
                    return k;
                }
            }
            return 0;
        }

        /** Comes to the SUMMARY of n ITEMS v, by halves: how often ELEMENTS were JOINED. */
        private int power(int v, int n) {
            int joined = 0;
            startEmpty();
            for (int bit = 30; bit >= 0; bit--) {
                int so = n >> bit;
                if (so == 1) {
                    start(v);
                } else if (so > 1) {
                    join(p, q, p, q);
                    joined++;
                    if (so % 2 == 1) {
                        follow(v);
                        joined++;
                    }
                }
            }
            return joined;
        }

        /** How many ITEMS, from 0 on, have all ELEMENTS that there are. */
        private int unlikeItems() {
            switch (kind) {
                case 4:
                    return 2 * BRACKETS;
                case 5:
                    return ARRANGED;
                case 7:
                    return table.n;
                default:
                    return LAST_ITEM + 1;
            }
        }

        private boolean undo(int v, int u) {
            start(v);
            follow(u);
            return comesTo(emptyP(), emptyQ());
        }
    }

    /** A TABLE of n by n, and its NEUTRAL one. */
    private static final class Table {
        private int n = 1;
        private int neutral;
        private final int[] entries = new int[LONGEST_TABLE * LONGEST_TABLE];

        private int entry(int r, int place) {
            if (r < 0 || r >= LONGEST_TABLE || place < 0 || place >= LONGEST_TABLE) {
                return 0;
            }
            int i = r * LONGEST_TABLE + place;
            return i < entries.length ? entries[i] : 0;
        }

        private int kindOf(int v) {
            return n < 1 ? 0 : v % n;
        }

        private void become(Table other) {
            n = other.n;
            neutral = other.neutral;
            for (int i = 0; i < entries.length; i++) {
                set(entries, i, at(other.entries, i));
            }
        }

        /** Becomes what a text tells in which each sign can stand. */
        private void read(Text text) {
            n = text.firstRow();
            for (int r = 0; r < n; r++) {
                for (int place = 0; place < n; place++) {
                    set(entries, r * LONGEST_TABLE + place, text.signAt(r * (n + 1) + place) - '0');
                }
            }
            neutral = neutralOne();
        }

        private int neutralOne() {
            for (int e = 0; e < n; e++) {
                boolean neutralSoFar = true;
                for (int x = 0; x < n; x++) {
                    neutralSoFar = neutralSoFar && entry(e, x) == x && entry(x, e) == x;
                }
                if (neutralSoFar) {
                    return e;
                }
            }
            return NONE;
        }

        /** The first three that do not join alike in any grouping, as the digits of one number; NONE: all do. */
        private int firstNotAlike() {
            for (int a = 0; a < n; a++) {
                for (int b = 0; b < n; b++) {
                    for (int c = 0; c < n; c++) {
                        if (entry(entry(a, b), c) != entry(a, entry(b, c))) {
                            return a * 100 + b * 10 + c;
                        }
                    }
                }
            }
            return NONE;
        }
    }

    /** THE TEXT, and which of its signs can't stand where they do. */
    private static final class Text {
        private static final int BEHIND = -1;
        private static final int MOST_DIGITS = 4;

        private int length;
        private final int[] signs = new int[LONGEST_TEXT];

        private void grow(int sign) {
            if (length < LONGEST_TEXT) {
                set(signs, length, sign);
                length++;
            }
        }

        /** The sign that is or was at p before THE TEXT was emptied. */
        private int signAt(int p) {
            return at(signs, p);
        }

        private int signOrBehind(int p) {
            return p < length ? at(signs, p) : BEHIND;
        }

        private static boolean isDigit(int sign) {
            return sign >= '0' && sign <= '9';
        }

        /** How many signs the first row of a TABLE has. */
        private int firstRow() {
            int n = 0;
            while (n < length && at(signs, n) != '/') {
                n++;
            }
            return n;
        }

        /** The place of the first sign that can't stand in a TABLE; NONE: each can. */
        private int firstWrongInTable() {
            int n = firstRow();
            for (int p = 0; p <= length; p++) {
                if (!fitsTable(p, n)) {
                    return p;
                }
            }
            return NONE;
        }

        private boolean fitsTable(int p, int n) {
            if (n < 1) {
                return false;
            }
            int r = p / (n + 1);
            int place = p % (n + 1);
            int sign = signOrBehind(p);
            if (place < n) {
                return place < LONGEST_TABLE && sign >= '0' && sign < '0' + Math.min(n, LONGEST_TABLE);
            }
            return r == n - 1 ? sign == BEHIND : sign == '/';
        }

        private boolean isAct(int p) {
            int sign = signAt(p);
            return sign == 'f' || sign == 'b' || sign == 'F' || sign == 'B' || sign == 'r';
        }

        private boolean isPut(int p) {
            int sign = signAt(p);
            return sign == 'f' || sign == 'b';
        }

        /** How many digits, at most four, stand from p on in a text of that length. */
        private int digitsFrom(int p, int until) {
            int digits = 0;
            while (digits < MOST_DIGITS && p + digits < until && isDigit(signAt(p + digits))) {
                digits++;
            }
            return digits;
        }

        /** The place of the first sign that can't stand in ACTS; NONE: each can. */
        private int firstWrongInActs() {
            int p = 0;
            while (p < length) {
                boolean put = isPut(p);
                if (!isAct(p) && signAt(p) != ' ') {
                    return p;
                }
                p++;
                int digits = put ? digitsFrom(p, length) : 0;
                if (put && digits == 0) {
                    return p;
                }
                p += digits;
            }
            return NONE;
        }

        /** The ITEM that the digits behind p tell. */
        private int itemBehind(int p, int until) {
            int digits = digitsFrom(p + 1, until);
            int v = 0;
            for (int i = 1; i <= digits; i++) {
                v = v * 10 + signAt(p + i) - '0';
            }
            return v;
        }
    }

    /** What TAKES cost that are not done; a LINE of n ITEMS is told by how many lie in its FRONT STACK. */
    private static final class Takings {
        private static final int UNREACHED = -1;

        // At each number of ITEMS in the FRONT STACK: the most WORK, and the least ENDS with it.
        private int[] costs = new int[MOST_ITEMS + 1];
        private int[] ends = new int[MOST_ITEMS + 1];
        private int[] nextCosts = new int[MOST_ITEMS + 1];
        private int[] nextEnds = new int[MOST_ITEMS + 1];
        private int dearestCost;
        private int dearestEnds;

        private static int cost(int front, int n, int end) {
            int near = end == FRONT ? front : n - front;
            return near == 0 ? n : 0;
        }

        /** How many the FRONT STACK has behind a TAKE. */
        private static int frontBehind(int front, int n, int end) {
            int near = end == FRONT ? front : n - front;
            int left = (near == 0 ? (n + 1) / 2 : near) - 1;
            return end == FRONT ? left : n - 1 - left;
        }

        /** WORK of TAKING all from the END whose STACK has so many, the other having others. */
        private static int drain(int near, int others) {
            int cost = 0;
            int front = near;
            for (int n = near + others; n > 0; n--) {
                cost += cost(front, n, FRONT);
                front = frontBehind(front, n, FRONT);
            }
            return cost;
        }

        /** Finds the dearest TAKES of a LINE that has as many ITEMS, or more. */
        private void seek(int front, int n, int takes) {
            forget(costs);
            set(costs, front, 0);
            set(ends, front, 0);
            for (int t = 0; t < takes; t++) {
                forget(nextCosts);
                for (int f = 0; f <= n - t; f++) {
                    if (at(costs, f) != UNREACHED) {
                        offer(f, n - t, t, FRONT);
                        offer(f, n - t, t, BACK);
                    }
                }
                swap();
            }
            choose(n - takes);
        }

        private static void forget(int[] costs) {
            for (int f = 0; f < costs.length; f++) {
                costs[f] = UNREACHED;
            }
        }

        private void offer(int front, int n, int t, int end) {
            int to = frontBehind(front, n, end);
            int cost = at(costs, front) + cost(front, n, end);
            int all = at(ends, front) | end << t;
            if (cost > at(nextCosts, to) || cost == at(nextCosts, to) && all < at(nextEnds, to)) {
                set(nextCosts, to, cost);
                set(nextEnds, to, all);
            }
        }

        private void swap() {
            int[] rowOfCosts = costs;
            int[] rowOfEnds = ends;
            costs = nextCosts;
            ends = nextEnds;
            nextCosts = rowOfCosts;
            nextEnds = rowOfEnds;
        }

        private void choose(int n) {
            dearestCost = UNREACHED;
            dearestEnds = 0;
            for (int f = 0; f <= n; f++) {
                int cost = at(costs, f);
                if (cost > dearestCost || cost == dearestCost && at(ends, f) < dearestEnds) {
                    dearestCost = cost;
                    dearestEnds = at(ends, f);
                }
            }
        }
    }
}
