import java.util.ArrayList;
import java.util.Collections;
import java.util.HashSet;
import java.util.IdentityHashMap;
import java.util.List;
import java.util.NoSuchElementException;
import java.util.Set;

/** The document once more, as plainly as can be: LINES as lists of linked CELLS, each SUMMARY joined from the ITEMS anew. */
final class Model {
    static final class Cell {
        final int item;
        Cell(int item) {
            this.item = item;
        }
    }

    /** Both STACKS from the lowest CELL on. */
    static final class Row {
        List<Cell> front = new ArrayList<>();
        List<Cell> back = new ArrayList<>();

        List<Cell> cells() {
            List<Cell> all = new ArrayList<>(front);
            Collections.reverse(all);
            all.addAll(back);
            return all;
        }

        List<Integer> items() {
            List<Integer> items = new ArrayList<>();
            for (Cell c : cells()) {
                items.add(c.item);
            }
            return items;
        }

        int size() {
            return front.size() + back.size();
        }

        Row copy() {
            Row r = new Row();
            r.front.addAll(front);
            r.back.addAll(back);
            return r;
        }
    }

    Row[] lines = {new Row(), new Row(), new Row(), new Row()};
    int rule = 0;
    int[][] table = {{0}};
    int neutral = 0;
    int work = 0;
    int rebuilt = 0;
    List<Long> row = new ArrayList<>();
    StringBuilder text = new StringBuilder();
    final List<int[]> arrangements = new ArrayList<>();

    Model() {
        for (int a = 0; a < 256; a++) {
            int[] one = {a >> 6, a >> 4 & 3, a >> 2 & 3, a & 3};
            Set<Integer> unlike = new HashSet<>();
            for (int v : one) {
                unlike.add(v);
            }
            if (unlike.size() == 4) {
                arrangements.add(one);
            }
        }
    }

    // ---- rules

    long[] empty() {
        long[][] all = {{0, 0}, {10000, -1}, {0, 0}, {1, 0}, {0, 0}, {0, 0}, {-1, -1}, {neutral, 0}};
        return all[rule].clone();
    }

    long[] element(int v) {
        switch (rule) {
            case 0: return new long[] {v, 1};
            case 3: return new long[] {(v / 101) % 101, v % 101};
            case 4: return v % 2 == 0 ? new long[] {0, (v / 2) % 10} : new long[] {((v - 1) / 2) % 10, 0};
            case 5: {
                int[] a = arrangements.get(v % 24);
                int leaps = 0;
                for (int i = 0; i < 4; i++) {
                    for (int j = i + 1; j < 4; j++) {
                        if (a[i] > a[j]) leaps++;
                    }
                }
                return new long[] {v % 24, leaps % 2};
            }
            case 7: return new long[] {v % table.length, 0};
            default: return new long[] {v, v};
        }
    }

    static long divisor(long a, long b) {
        return b == 0 ? a : divisor(b, a % b);
    }

    long[] join(long[] a, long[] b) {
        long p = a[0];
        long q = a[1];
        long r = b[0];
        long s = b[1];
        switch (rule) {
            case 0: return new long[] {p + r, q + s};
            case 1: return new long[] {p < r ? p : r, q > s ? q : s};
            case 2: return new long[] {divisor(p, r), q ^ s};
            case 3: return new long[] {(p * r) % 101, (r * q + s) % 101};
            case 4: return q < r ? new long[] {p + (r - q), s} : new long[] {p, q - r + s};
            case 5: {
                int[] x = arrangements.get((int) p);
                int[] y = arrangements.get((int) r);
                int[] z = {y[x[0]], y[x[1]], y[x[2]], y[x[3]]};
                for (int k = 0; k < 24; k++) {
                    if (java.util.Arrays.equals(arrangements.get(k), z)) return new long[] {k, (q + s) % 2};
                }
                throw new IllegalStateException("no arrangement");
            }
            case 6: {
                if (p == -1 && q == -1) return b.clone();
                if (r == -1 && s == -1) return a.clone();
                return new long[] {p, s};
            }
            default: return new long[] {table[(int) p][(int) r], 0};
        }
    }

    long[] summary(List<Integer> items) {
        long[] sum = empty();
        for (int v : items) {
            sum = join(sum, element(v));
        }
        return sum;
    }

    static boolean alike(long[] a, long[] b) {
        return a[0] == b[0] && a[1] == b[1];
    }

    static boolean item(int v) {
        return 0 <= v && v <= 9999;
    }

    static boolean line(int l) {
        return 0 <= l && l <= 3;
    }

    static boolean isEnd(int e) {
        return e == 0 || e == 1;
    }

    void tell(long... numbers) {
        row.clear();
        for (long n : numbers) {
            row.add(n);
        }
    }

    void tellSum(long[] sum) {
        tell(sum[0], sum[1]);
    }

    Cell make(int v) {
        work++;
        return new Cell(v);
    }

    void lay(Row r, List<Integer> items, int f) {
        r.front = new ArrayList<>();
        r.back = new ArrayList<>();
        for (int i = 0; i < items.size(); i++) {
            if (i < f) {
                r.front.add(0, make(items.get(i)));
            } else {
                r.back.add(make(items.get(i)));
            }
        }
    }

    void layAll() {
        for (Row r : lines) {
            lay(r, r.items(), r.front.size());
        }
    }

    int rule(int r) {
        if (r < 0 || r > 7) return -1;
        if (r == rule) return -2;
        int was = rule;
        rule = r;
        layAll();
        return was;
    }

    /** Against the only shape that a first row of that length leaves. */
    static int wrongInTable(String t) {
        int n = t.indexOf('/') < 0 ? t.length() : t.indexOf('/');
        StringBuilder shape = new StringBuilder();
        for (int r = 0; r < n && n <= 5; r++) {
            shape.append(r == 0 ? "" : "/").append("d".repeat(n));
        }
        if (n > 5) shape.append("ddddd");
        for (int p = 0; p < shape.length(); p++) {
            if (p >= t.length()) return p;
            char c = t.charAt(p);
            boolean stands = shape.charAt(p) == 'd' ? "01234".indexOf(c) >= 0 && c - '0' < n : c == '/';
            if (!stands) return p;
        }
        return n >= 1 && t.length() == shape.length() ? -1 : shape.length();
    }

    int table() {
        String t = text.toString();
        text.setLength(0);
        int p = wrongInTable(t);
        if (p >= 0) return -21 - p;
        String[] rows = t.split("/");
        int n = rows.length;
        int[][] told = new int[n][n];
        for (int i = 0; i < n; i++) {
            for (int j = 0; j < n; j++) {
                told[i][j] = rows[i].charAt(j) - '0';
            }
        }
        for (int abc = 0; abc < n * n * n; abc++) {
            int a = abc / (n * n);
            int b = abc / n % n;
            int c = abc % n;
            if (told[told[a][b]][c] != told[a][told[b][c]]) {
                tell(a, b, c);
                return -10;
            }
        }
        int e = -1;
        for (int i = n - 1; i >= 0; i--) {
            boolean yes = true;
            for (int x = 0; x < n; x++) {
                yes &= told[i][x] == x && told[x][i] == x;
            }
            if (yes) e = i;
        }
        if (e < 0) return -11;
        table = told;
        neutral = e;
        if (rule == 7) layAll();
        return n;
    }

    int commutes(int v, int u) {
        if (!item(v) || !item(u)) return -1;
        long[] a = join(element(v), element(u));
        long[] b = join(element(u), element(v));
        tell(a[0], a[1], b[0], b[1]);
        return alike(a, b) ? 1 : 0;
    }

    int joins;

    long[] power(int v, int n) {
        if (n == 0) return empty();
        if (n == 1) return element(v);
        long[] half = power(v, n / 2);
        joins++;
        long[] both = join(half, half);
        if (n % 2 == 0) return both;
        joins++;
        return join(both, element(v));
    }

    int powers(int v, int n) {
        if (!item(v) || n < 0 || n > 1000000000) return -1;
        joins = 0;
        tellSum(power(v, n));
        return joins;
    }

    int order(int v) {
        if (!item(v)) return -1;
        List<long[]> sums = new ArrayList<>();
        sums.add(null);
        for (int n = 1; n <= 128; n++) {
            sums.add(summary(Collections.nCopies(n, v)));
            for (int m = 1; m < n; m++) {
                if (alike(sums.get(m), sums.get(n))) {
                    tell(m);
                    return n;
                }
            }
        }
        return -2;
    }

    int undoes(int v) {
        if (!item(v)) return -1;
        for (int u = 0; u <= 9999; u++) {
            if (alike(join(element(v), element(u)), empty()) && alike(join(element(u), element(v)), empty())) return u;
        }
        return -2;
    }

    // ---- lines

    void put(Row r, int end, int v) {
        (end == 0 ? r.front : r.back).add(make(v));
    }

    int take(Row r, int end) {
        if ((end == 0 ? r.front : r.back).isEmpty()) {
            int n = r.size();
            int half = (n + 1) / 2;
            lay(r, r.items(), end == 0 ? half : n - half);
            rebuilt++;
        }
        List<Cell> stack = end == 0 ? r.front : r.back;
        return stack.remove(stack.size() - 1).item;
    }

    int puts(int l, int end, int v) {
        if (!line(l) || !isEnd(end) || !item(v)) return -1;
        if (lines[l].size() == 64) return -3;
        put(lines[l], end, v);
        return lines[l].size();
    }

    int takes(int l, int end) {
        if (!line(l) || !isEnd(end)) return -1;
        if (lines[l].size() == 0) return -2;
        int before = work;
        int v = take(lines[l], end);
        tell(work - before);
        return v;
    }

    int copies(int l, int to) {
        if (!line(l) || !line(to)) return -1;
        if (l == to) return -2;
        lines[to] = lines[l].copy();
        return lines[to].size();
    }

    int joins(int l, int other) {
        if (!line(l) || !line(other)) return -1;
        if (lines[l].size() + lines[other].size() > 64) return -3;
        int before = work;
        Row copy = lines[other].copy();
        while (copy.size() > 0) {
            put(lines[l], 1, take(copy, 0));
        }
        tell(work - before);
        return lines[l].size();
    }

    int parts(int l, int k, int to) {
        if (!line(l) || !line(to) || k < 0) return -1;
        if (l == to) return -2;
        if (lines[l].size() < k) return -3;
        List<Integer> items = lines[l].items();
        int others = items.size() - k;
        lay(lines[l], items.subList(0, k), (k + 1) / 2);
        lay(lines[to], items.subList(k, items.size()), (others + 1) / 2);
        return others;
    }

    void turn(Row r) {
        List<Integer> items = r.items();
        Collections.reverse(items);
        lay(r, items, r.back.size());
    }

    int reverses(int l) {
        if (!line(l)) return -1;
        turn(lines[l]);
        return lines[l].size();
    }

    /** Both STACKS hold these ITEMS then; of the STACK of that END just the lowest CELLS stay. */
    void renew(Row r, int end, List<Integer> fromBottom, int stay) {
        List<Cell> stack = end == 0 ? r.front : r.back;
        List<Cell> anew = new ArrayList<>(stack.subList(0, stay));
        for (int v : fromBottom.subList(stay, fromBottom.size())) {
            anew.add(make(v));
        }
        if (end == 0) {
            r.front = anew;
        } else {
            r.back = anew;
        }
    }

    static List<Integer> itemsOf(List<Cell> stack) {
        List<Integer> items = new ArrayList<>();
        for (Cell c : stack) {
            items.add(c.item);
        }
        return items;
    }

    int changes(int l, int i, int v) {
        if (!line(l) || !item(v)) return -1;
        Row r = lines[l];
        if (i < 0 || i >= r.size()) return -2;
        int was = r.items().get(i);
        if (was == v) return -4;
        int before = work;
        if (i < r.front.size()) {
            int height = r.front.size() - 1 - i;
            List<Integer> items = itemsOf(r.front);
            items.set(height, v);
            renew(r, 0, items, height);
        } else {
            int height = i - r.front.size();
            List<Integer> items = itemsOf(r.back);
            items.set(height, v);
            renew(r, 1, items, height);
        }
        tell(work - before);
        return was;
    }

    int slips(int l, int i, int v) {
        if (!line(l) || !item(v)) return -1;
        Row r = lines[l];
        if (i < 0 || i > r.size()) return -2;
        if (r.size() == 64) return -3;
        int before = work;
        if (i < r.front.size()) {
            List<Integer> items = itemsOf(r.front);
            items.add(items.size() - i, v);
            renew(r, 0, items, items.size() - 1 - i);
        } else {
            List<Integer> items = itemsOf(r.back);
            items.add(i - r.front.size(), v);
            renew(r, 1, items, i - r.front.size());
        }
        tell(work - before);
        return r.size();
    }

    int drops(int l, int i) {
        if (!line(l)) return -1;
        Row r = lines[l];
        if (i < 0 || i >= r.size()) return -2;
        int was = r.items().get(i);
        int before = work;
        if (i < r.front.size()) {
            int height = r.front.size() - 1 - i;
            List<Integer> items = itemsOf(r.front);
            items.remove(height);
            renew(r, 0, items, height);
        } else {
            int height = i - r.front.size();
            List<Integer> items = itemsOf(r.back);
            items.remove(height);
            renew(r, 1, items, height);
        }
        tell(work - before);
        return was;
    }

    int shifts(int l, int end, int n) {
        if (!line(l) || !isEnd(end) || n < 1 || n > 64) return -1;
        if (lines[l].size() == 0) return -2;
        int before = work;
        for (int i = 0; i < n; i++) {
            put(lines[l], 1 - end, take(lines[l], end));
        }
        tellSum(summary(lines[l].items()));
        return work - before;
    }

    int clears(int l) {
        if (!line(l)) return -1;
        int had = lines[l].size();
        lines[l] = new Row();
        return had;
    }

    /** By how many digits stand behind the last f or b (-1: none is due). */
    static int wrongInActs(String t) {
        int digits = -1;
        for (int p = 0; p < t.length(); p++) {
            char c = t.charAt(p);
            boolean digit = c >= '0' && c <= '9';
            boolean other = " FBrfb".indexOf(c) >= 0;
            if (digits == 0 && !digit) return p;
            if (digit && (digits < 0 || digits == 4)) return p;
            if (!digit && !other) return p;
            digits = digit ? digits + 1 : c == 'f' || c == 'b' ? 0 : -1;
        }
        return digits == 0 ? t.length() : -1;
    }

    int run(int l) {
        String t = text.toString();
        text.setLength(0);
        if (!line(l)) return -1;
        int p = wrongInActs(t);
        if (p >= 0) return -21 - p;
        java.util.regex.Matcher m = java.util.regex.Pattern.compile("([fb])([0-9]+)|[FBr]").matcher(t);
        int before = work;
        int done = 0;
        int stopped = 0;
        Row r = lines[l];
        while (stopped == 0 && m.find()) {
            char c = m.group().charAt(0);
            if (c == 'r') {
                turn(r);
            } else if (m.group(1) != null) {
                if (r.size() == 64) {
                    stopped = 1;
                } else {
                    put(r, c == 'f' ? 0 : 1, Integer.parseInt(m.group(2)));
                }
            } else if (r.size() == 0) {
                stopped = 1;
            } else {
                take(r, c == 'F' ? 0 : 1);
            }
            done += 1 - stopped;
        }
        long[] sum = summary(r.items());
        tell(stopped, work - before, sum[0], sum[1]);
        return done;
    }

    int sign(int v) {
        if (text.length() > 96) return -1;
        for (int k = 3; k >= 0; k--) {
            text.append((char) (v >>> 8 * k & 255));
        }
        return text.length();
    }

    boolean end(int n) {
        if (n < 0 || n > text.length()) return false;
        text.setLength(n);
        return true;
    }

    // ---- what is asked

    int sum(int l) {
        if (!line(l)) return -1;
        tellSum(summary(lines[l].items()));
        return lines[l].size();
    }

    int item(int l, int i) {
        if (!line(l) || i < 0 || i >= lines[l].size()) throw new NoSuchElementException();
        Row r = lines[l];
        List<Integer> items = r.items();
        int f = r.front.size();
        long[] sum = summary(i < f ? items.subList(i, f) : items.subList(f, i + 1));
        tell(i < f ? 0 : 1, i < f ? i : r.size() - 1 - i, sum[0], sum[1]);
        return items.get(i);
    }

    long[] sumOf(int l, int i, int j) {
        return summary(lines[l].items().subList(i, j));
    }

    int part(int l, int i, int j) {
        if (!line(l)) return -1;
        if (i < 0 || j < i || j > lines[l].size()) return -2;
        tellSum(sumOf(l, i, j));
        return j - i;
    }

    int windows(int l, int w) {
        if (!line(l) || w < 1 || w > 64) return -1;
        int n = lines[l].size();
        if (n < w) return -2;
        row.clear();
        for (int i = 0; i + w <= n; i++) {
            long[] sum = sumOf(l, i, i + w);
            row.add(sum[0]);
            row.add(sum[1]);
        }
        return n - w + 1;
    }

    int first(int l, int v) {
        if (!line(l)) return -1;
        for (int k = 1; k <= lines[l].size(); k++) {
            if (sumOf(l, 0, k)[0] >= v) {
                tellSum(sumOf(l, 0, k));
                return k;
            }
        }
        return -2;
    }

    int longest(int l, int v) {
        if (!line(l)) return -1;
        int n = lines[l].size();
        for (int w = n; w >= 1; w--) {
            for (int i = 0; i + w <= n; i++) {
                if (sumOf(l, i, i + w)[0] <= v) {
                    tell(i);
                    return w;
                }
            }
        }
        tell(-1);
        return 0;
    }

    int greatest(int l, int w) {
        if (!line(l) || w < 1 || w > 64) return -1;
        int n = lines[l].size();
        if (n < w) return -2;
        int best = 0;
        for (int i = 1; i + w <= n; i++) {
            if (sumOf(l, i, i + w)[1] > sumOf(l, best, best + w)[1]) best = i;
        }
        tellSum(sumOf(l, best, best + w));
        return best;
    }

    int finds(int l, int p, int q) {
        if (!line(l)) return -1;
        int n = lines[l].size();
        for (int w = 1; w <= n; w++) {
            List<Integer> places = new ArrayList<>();
            for (int i = 0; i + w <= n; i++) {
                if (alike(sumOf(l, i, i + w), new long[] {p, q})) places.add(i);
            }
            if (!places.isEmpty()) {
                tell(places.get(0), places.size());
                return w;
            }
        }
        return -2;
    }

    /** Does TAKES from such ENDS on a COPY: WORK by them; nothing is left of it. */
    int tried(Row r, int takes, int ends) {
        int work0 = work;
        int rebuilt0 = rebuilt;
        for (int t = 0; t < takes; t++) {
            take(r, ends >> Math.min(t, 31) & 1);
        }
        int cost = work - work0;
        work = work0;
        rebuilt = rebuilt0;
        return cost;
    }

    int drains(int l) {
        if (!line(l)) return -1;
        int n = lines[l].size();
        int f = tried(lines[l].copy(), n, 0);
        int b = tried(lines[l].copy(), n, -1);
        tell(b < f ? 1 : 0, f, b);
        return Math.min(f, b);
    }

    int unlike(int l) {
        if (!line(l)) return -1;
        java.util.LinkedHashMap<String, Integer> times = new java.util.LinkedHashMap<>();
        for (int k = 1; k <= lines[l].size(); k++) {
            long[] sum = sumOf(l, 0, k);
            times.merge(sum[0] + " " + sum[1], 1, Integer::sum);
        }
        row.clear();
        String best = null;
        for (String s : times.keySet()) {
            if (best == null || times.get(s) > times.get(best)) best = s;
        }
        if (best != null) tell(Long.parseLong(best.split(" ")[0]), Long.parseLong(best.split(" ")[1]), times.get(best));
        return times.size();
    }

    static Set<Cell> cellSet(List<Cell> cells) {
        Set<Cell> set = Collections.newSetFromMap(new IdentityHashMap<>());
        set.addAll(cells);
        return set;
    }

    int same(int l, int o) {
        if (!line(l) || !line(o)) return -1;
        Set<Cell> both = cellSet(lines[l].cells());
        both.retainAll(cellSet(lines[o].cells()));
        boolean sums = alike(summary(lines[l].items()), summary(lines[o].items()));
        tell(sums ? 1 : 0, both.size());
        return lines[l].items().equals(lines[o].items()) ? 1 : 0;
    }

    int shared() {
        IdentityHashMap<Cell, Integer> holders = new IdentityHashMap<>();
        int items = 0;
        for (Row r : lines) {
            items += r.size();
            for (Cell c : r.cells()) {
                holders.merge(c, 1, Integer::sum);
            }
        }
        int several = 0;
        for (int h : holders.values()) {
            several += h > 1 ? 1 : 0;
        }
        tell(several, items);
        return holders.size();
    }

    int would(int l, int end) {
        if (!line(l) || !isEnd(end)) return -1;
        if (lines[l].size() == 0) return -2;
        Row copy = lines[l].copy();
        int cost = tried(copy, 1, end);
        tell(copy.front.size(), copy.back.size());
        return cost;
    }

    int dearest(int l, int n) {
        if (!line(l) || n < 1 || n > 12) return -1;
        if (lines[l].size() < n) return -2;
        int best = -1;
        int least = 0;
        for (int ends = 0; ends < 1 << n; ends++) {
            int cost = tried(lines[l].copy(), n, ends);
            if (cost > best) {
                best = cost;
                least = ends;
            }
        }
        tell(least);
        return best;
    }

    int count(int what) {
        int[] all = {lines[0].size(), lines[1].size(), lines[2].size(), lines[3].size(), rule, table.length, neutral,
            work, rebuilt, row.size(), text.length()};
        return what < 0 || what > 10 ? -1 : all[what];
    }

    long row(int i) {
        if (i < 0 || i >= row.size()) throw new NoSuchElementException();
        return row.get(i);
    }
}
