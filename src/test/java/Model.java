import java.util.ArrayList;
import java.util.Arrays;
import java.util.BitSet;
import java.util.HashMap;
import java.util.HashSet;
import java.util.List;
import java.util.Map;
import java.util.Set;

/**
 * The document written a second time, slowly and by sets of vectors instead of echelons, so that a mistake of the
 * program is not likely to be made here, too. It uses the Java library freely.
 */
final class Model {
    static final int NONE = -1;

    // ------------------------------------------------------------------ worlds

    private static final Map<Integer, int[][]> DIGITS = new HashMap<>();

    static final class W {
        final int p;
        final int n;
        final int[][][] c;
        private int[][] digits;

        W(int p, int n) {
            this.p = p;
            this.n = n;
            this.c = new int[n][n][n];
        }

        W copy() {
            W w = new W(p, n);
            for (int i = 0; i < n; i++) {
                for (int j = 0; j < n; j++) {
                    w.c[i][j] = c[i][j].clone();
                }
            }
            return w;
        }

        void set(int i, int j, int k, int v) {
            c[i][j][k] = Math.floorMod(v, p);
            c[j][i][k] = Math.floorMod(-v, p);
        }

        int all() {
            int a = 1;
            for (int i = 0; i < n; i++) {
                a *= p;
            }
            return a;
        }

        /** A row that is kept for all worlds of this kind: not to be changed. */
        int[] digits(int x) {
            if (digits == null) {
                digits = DIGITS.computeIfAbsent(p * 10 + n, key -> {
                    int[][] all = new int[all()][n];
                    for (int v = 0; v < all.length; v++) {
                        int rest = v;
                        for (int i = 0; i < n; i++) {
                            all[v][i] = rest % p;
                            rest /= p;
                        }
                    }
                    return all;
                });
            }
            return digits[x];
        }

        int number(int[] d) {
            int x = 0;
            for (int i = n - 1; i >= 0; i--) {
                x = x * p + Math.floorMod(d[i], p);
            }
            return x;
        }

        int base(int i) {
            int[] d = new int[n];
            d[i] = 1;
            return number(d);
        }

        int plus(int x, int y, int times) {
            int[] a = digits(x).clone();
            int[] b = digits(y);
            for (int i = 0; i < n; i++) {
                a[i] += times * b[i];
            }
            return number(a);
        }

        int br(int x, int y) {
            int[] a = digits(x);
            int[] b = digits(y);
            int[] out = new int[n];
            for (int i = 0; i < n; i++) {
                for (int j = 0; j < n; j++) {
                    for (int k = 0; k < n; k++) {
                        out[k] += a[i] * b[j] * c[i][j][k];
                    }
                }
            }
            return number(out);
        }

        int[] breaking() {
            for (int i = 0; i < n; i++) {
                for (int j = i + 1; j < n; j++) {
                    for (int k = j + 1; k < n; k++) {
                        int a = br(base(i), br(base(j), base(k)));
                        int b = br(base(j), br(base(k), base(i)));
                        int d = br(base(k), br(base(i), base(j)));
                        if (plus(plus(a, b, 1), d, 1) != 0) {
                            return new int[] {i, j, k};
                        }
                    }
                }
            }
            return null;
        }

        boolean same(W o) {
            return p == o.p && n == o.n && Arrays.deepEquals(c, o.c);
        }
    }

    static int limit(int p) {
        return p == 2 || p == 3 ? 5 : p == 5 ? 4 : p == 7 ? 3 : 0;
    }

    // ------------------------------------------------------------------ spans as sets

    static BitSet span(W w, List<Integer> gens) {
        BitSet s = new BitSet();
        s.set(0);
        for (int g : gens) {
            if (s.get(g)) {
                continue;
            }
            BitSet t = new BitSet();
            for (int x = s.nextSetBit(0); x >= 0; x = s.nextSetBit(x + 1)) {
                for (int a = 0; a < w.p; a++) {
                    t.set(w.plus(x, g, a));
                }
            }
            s = t;
        }
        return s;
    }

    static int dim(W w, BitSet s) {
        int d = 0;
        int c = s.cardinality();
        while (c > 1) {
            c /= w.p;
            d++;
        }
        return d;
    }

    static List<Integer> members(BitSet s) {
        List<Integer> l = new ArrayList<>();
        for (int x = s.nextSetBit(0); x >= 0; x = s.nextSetBit(x + 1)) {
            l.add(x);
        }
        return l;
    }

    static List<Integer> someBasis(W w, BitSet s) {
        List<Integer> b = new ArrayList<>();
        BitSet t = span(w, b);
        for (int x : members(s)) {
            if (!t.get(x)) {
                b.add(x);
                t = span(w, b);
            }
        }
        return b;
    }

    static BitSet whole(W w) {
        BitSet s = new BitSet();
        s.set(0, w.all());
        return s;
    }

    static BitSet brackets(W w, BitSet a, BitSet b) {
        List<Integer> g = new ArrayList<>();
        for (int x : someBasis(w, a)) {
            for (int y : someBasis(w, b)) {
                g.add(w.br(x, y));
            }
        }
        return span(w, g);
    }

    static BitSet series(W w, BitSet of, int k, boolean lower) {
        BitSet s = of;
        for (int i = 0; i < k; i++) {
            s = brackets(w, s, lower ? of : s);
        }
        return s;
    }

    static boolean within(BitSet a, BitSet b) {
        BitSet t = (BitSet) a.clone();
        t.andNot(b);
        return t.isEmpty();
    }

    static BitSet close(W w, BitSet s, boolean ideal) {
        while (true) {
            List<Integer> g = new ArrayList<>(someBasis(w, s));
            g.addAll(someBasis(w, brackets(w, s, ideal ? whole(w) : s)));
            BitSet t = span(w, g);
            if (t.equals(s)) {
                return s;
            }
            s = t;
        }
    }

    static BitSet normalizer(W w, BitSet s) {
        BitSet r = new BitSet();
        List<Integer> b = someBasis(w, s);
        for (int x = 0; x < w.all(); x++) {
            boolean in = true;
            for (int y : b) {
                in &= s.get(w.br(x, y));
            }
            if (in) {
                r.set(x);
            }
        }
        return r;
    }

    static BitSet centre(W w) {
        BitSet r = new BitSet();
        for (int x = 0; x < w.all(); x++) {
            boolean in = true;
            for (int j = 0; j < w.n; j++) {
                in &= w.br(x, w.base(j)) == 0;
            }
            if (in) {
                r.set(x);
            }
        }
        return r;
    }

    static BitSet centralizer(W w, int v) {
        BitSet r = new BitSet();
        for (int x = 0; x < w.all(); x++) {
            if (w.br(x, v) == 0) {
                r.set(x);
            }
        }
        return r;
    }

    private static final Map<Integer, List<Set<BitSet>>> SPANS = new HashMap<>();

    static List<Set<BitSet>> allSpans(W w) {
        return SPANS.computeIfAbsent(w.p * 10 + w.n, key -> {
            List<Set<BitSet>> l = new ArrayList<>();
            Set<BitSet> now = new HashSet<>();
            now.add(span(w, List.of()));
            l.add(now);
            for (int d = 1; d <= w.n; d++) {
                Set<BitSet> next = new HashSet<>();
                for (BitSet s : now) {
                    List<Integer> b = someBasis(w, s);
                    for (int x = 1; x < w.all(); x++) {
                        if (!s.get(x)) {
                            List<Integer> g = new ArrayList<>(b);
                            g.add(x);
                            next.add(span(w, g));
                        }
                    }
                }
                l.add(next);
                now = next;
            }
            return l;
        });
    }

    static boolean kind(W w, BitSet s, int what) {
        BitSet own = brackets(w, s, s);
        switch (what) {
            case 0: return within(own, s);
            case 1: return within(brackets(w, s, whole(w)), s);
            case 2: return own.cardinality() == 1;
            default: return within(own, s) && series(w, s, 6, true).cardinality() == 1 && normalizer(w, s).equals(s);
        }
    }

    /** The parts at which the ECHELON leads. */
    static List<Integer> leads(W w, BitSet s) {
        boolean[] at = new boolean[w.n];
        for (int x : members(s)) {
            int[] d = w.digits(x);
            for (int i = 0; i < w.n; i++) {
                if (d[i] != 0) {
                    at[i] = true;
                    break;
                }
            }
        }
        List<Integer> l = new ArrayList<>();
        for (int i = 0; i < w.n; i++) {
            if (at[i]) {
                l.add(i);
            }
        }
        return l;
    }

    static List<Integer> echelon(W w, BitSet s) {
        List<Integer> leads = leads(w, s);
        List<Integer> rows = new ArrayList<>();
        for (int l : leads) {
            for (int x : members(s)) {
                int[] d = w.digits(x);
                boolean good = true;
                for (int m : leads) {
                    good &= d[m] == (m == l ? 1 : 0);
                }
                if (good) {
                    rows.add(x);
                }
            }
        }
        return rows;
    }

    // ------------------------------------------------------------------ matrices

    static int rank(int[][] m, int p) {
        int rank = 0;
        int cols = m.length == 0 ? 0 : m[0].length;
        for (int c = 0; c < cols && rank < m.length; c++) {
            int r = rank;
            while (r < m.length && Math.floorMod(m[r][c], p) == 0) {
                r++;
            }
            if (r == m.length) {
                continue;
            }
            int[] t = m[r];
            m[r] = m[rank];
            m[rank] = t;
            for (int i = rank + 1; i < m.length; i++) {
                int f = m[i][c];
                int g = t[c];
                for (int k = 0; k < cols; k++) {
                    m[i][k] = Math.floorMod(m[i][k] * g - t[k] * f, p);
                }
            }
            rank++;
        }
        return rank;
    }

    static int[][] matrix(W w, int x) {
        int[][] m = new int[w.n][];
        for (int j = 0; j < w.n; j++) {
            m[j] = w.digits(w.br(x, w.base(j))).clone();
        }
        return m;
    }

    static int[][] times(int[][] a, int[][] b, int p) {
        int n = a.length;
        int[][] r = new int[n][n];
        for (int i = 0; i < n; i++) {
            for (int j = 0; j < n; j++) {
                for (int k = 0; k < n; k++) {
                    r[i][j] = (r[i][j] + a[i][k] * b[k][j]) % p;
                }
            }
        }
        return r;
    }

    static int trace(int[][] a, int p) {
        int t = 0;
        for (int i = 0; i < a.length; i++) {
            t += a[i][i];
        }
        return t % p;
    }

    static int derivationSize(W w) {
        int n = w.n;
        List<int[]> columns = new ArrayList<>();
        for (int a = 0; a < n; a++) {
            for (int b = 0; b < n; b++) {
                int[] col = new int[n * n * n];
                for (int i = 0; i < n; i++) {
                    for (int j = 0; j < n; j++) {
                        int br = w.br(w.base(i), w.base(j));
                        int first = elementary(w, a, b, br);
                        int second = w.br(elementary(w, a, b, w.base(i)), w.base(j));
                        int third = w.br(w.base(i), elementary(w, a, b, w.base(j)));
                        int defect = w.plus(w.plus(first, second, -1), third, -1);
                        System.arraycopy(w.digits(defect), 0, col, (i * n + j) * n, n);
                    }
                }
                columns.add(col);
            }
        }
        return n * n - rank(columns.toArray(new int[0][]), w.p);
    }

    static int elementary(W w, int a, int b, int x) {
        int[] d = new int[w.n];
        d[b] = w.digits(x)[a];
        return w.number(d);
    }

    static int formRank(W w) {
        int[][] m = new int[w.n][w.n];
        for (int i = 0; i < w.n; i++) {
            for (int j = 0; j < w.n; j++) {
                m[i][j] = trace(times(matrix(w, w.base(i)), matrix(w, w.base(j)), w.p), w.p);
            }
        }
        return rank(m, w.p);
    }

    static void sets(int n, int k, int from, List<Integer> now, List<List<Integer>> out) {
        if (now.size() == k) {
            out.add(new ArrayList<>(now));
            return;
        }
        for (int i = from; i < n; i++) {
            now.add(i);
            sets(n, k, i + 1, now, out);
            now.remove(now.size() - 1);
        }
    }

    static List<List<Integer>> sets(int n, int k) {
        List<List<Integer>> out = new ArrayList<>();
        if (k >= 0) {
            sets(n, k, 0, new ArrayList<>(), out);
        }
        return out;
    }

    /** The form that is 1 on one set, of BASE vectors in any order. */
    static int unitForm(List<Integer> set, List<Integer> args) {
        List<Integer> a = new ArrayList<>(args);
        int sign = 1;
        for (int i = 0; i < a.size(); i++) {
            for (int j = 0; j + 1 < a.size(); j++) {
                if (a.get(j) > a.get(j + 1)) {
                    int t = a.get(j);
                    a.set(j, a.get(j + 1));
                    a.set(j + 1, t);
                    sign = -sign;
                }
            }
        }
        return a.equals(set) ? sign : 0;
    }

    static int dOf(W w, Map<List<Integer>, Integer> f, List<Integer> x) {
        int all = 0;
        for (int a = 0; a < x.size(); a++) {
            for (int b = a + 1; b < x.size(); b++) {
                for (int m = 0; m < w.n; m++) {
                    List<Integer> args = new ArrayList<>();
                    args.add(m);
                    for (int o = 0; o < x.size(); o++) {
                        if (o != a && o != b) {
                            args.add(x.get(o));
                        }
                    }
                    int value = 0;
                    for (Map.Entry<List<Integer>, Integer> e : f.entrySet()) {
                        value += e.getValue() * unitForm(e.getKey(), args);
                    }
                    value *= w.c[x.get(a)][x.get(b)][m];
                    all += (a + b) % 2 == 1 ? -value : value;
                }
            }
        }
        return Math.floorMod(all, w.p);
    }

    static int rankOfD(W w, int k) {
        List<List<Integer>> from = sets(w.n, k);
        List<List<Integer>> to = sets(w.n, k + 1);
        int[][] m = new int[from.size()][to.size()];
        for (int i = 0; i < from.size(); i++) {
            for (int j = 0; j < to.size(); j++) {
                m[i][j] = dOf(w, Map.of(from.get(i), 1), to.get(j));
            }
        }
        return rank(m, w.p);
    }

    static int classSize(W w, int k) {
        return sets(w.n, k).size() - rankOfD(w, k) - rankOfD(w, k - 1);
    }

    static boolean closed(W w, long[] couples) {
        Map<List<Integer>, Integer> f = new HashMap<>();
        List<List<Integer>> two = sets(w.n, 2);
        for (int i = 0; i < two.size(); i++) {
            f.put(two.get(i), (int) couples[i]);
        }
        for (List<Integer> three : sets(w.n, 3)) {
            if (dOf(w, f, three) != 0) {
                return false;
            }
        }
        return true;
    }

    static int commuting(W w) {
        int count = 0;
        for (int x = 0; x < w.all(); x++) {
            count += centralizer(w, x).cardinality();
        }
        return count;
    }

    // ------------------------------------------------------------------ maps

    static final class Search {
        int tries;
        int found;
        boolean spent;

        void look(W from, W to, boolean first) {
            if (from.p == to.p && from.n == to.n) {
                deeper(from, to, first, new ArrayList<>(), span(to, List.of()));
            }
        }

        private boolean deeper(W from, W to, boolean first, List<Integer> images, BitSet ahead) {
            if (images.size() == from.n) {
                found++;
                return first;
            }
            int last = to.all() - 1;
            for (int v = 1; v <= last; v++) {
                if (tries == 200000) {
                    spent = true;
                    return true;
                }
                tries++;
                if (ahead.get(v)) {
                    continue;
                }
                images.add(v);
                boolean over = good(from, to, images)
                        && deeper(from, to, first, images, span(to, images));
                images.remove(images.size() - 1);
                if (over) {
                    return true;
                }
            }
            return false;
        }

        private static boolean good(W from, W to, List<Integer> images) {
            int so = images.size();
            for (int i = 0; i < so; i++) {
                for (int j = i + 1; j < so; j++) {
                    int[] b = from.c[i][j];
                    boolean within = true;
                    for (int k = so; k < from.n; k++) {
                        within &= b[k] == 0;
                    }
                    if (within) {
                        int image = 0;
                        for (int k = 0; k < so; k++) {
                            image = to.plus(image, images.get(k), b[k]);
                        }
                        if (to.br(images.get(i), images.get(j)) != image) {
                            return false;
                        }
                    }
                }
            }
            return true;
        }
    }

    // ------------------------------------------------------------------ other worlds

    /** Null if the rows don't span all. */
    static W changed(W w, int[] rows) {
        if (dim(w, span(w, Arrays.stream(rows).boxed().toList())) < w.n) {
            return null;
        }
        int[] coordinates = new int[w.all()];
        for (int x = 0; x < w.all(); x++) {
            int[] d = w.digits(x);
            int v = 0;
            for (int i = 0; i < w.n; i++) {
                v = w.plus(v, rows[i], d[i]);
            }
            coordinates[v] = x;
        }
        W r = new W(w.p, w.n);
        for (int i = 0; i < w.n; i++) {
            for (int j = 0; j < w.n; j++) {
                r.c[i][j] = w.digits(coordinates[w.br(rows[i], rows[j])]).clone();
            }
        }
        return r;
    }

    static W joined(W a, W b) {
        W r = new W(a.p, a.n + b.n);
        for (int i = 0; i < a.n; i++) {
            for (int j = 0; j < a.n; j++) {
                System.arraycopy(a.c[i][j], 0, r.c[i][j], 0, a.n);
            }
        }
        for (int i = 0; i < b.n; i++) {
            for (int j = 0; j < b.n; j++) {
                System.arraycopy(b.c[i][j], 0, r.c[a.n + i][a.n + j], a.n, b.n);
            }
        }
        return r;
    }

    private static final Map<Integer, Integer> TABLES = new HashMap<>();

    static int tables(int p, int n, boolean unlike) {
        return TABLES.computeIfAbsent(p * 100 + n * 10 + (unlike ? 1 : 0), key -> countTables(p, n, unlike));
    }

    private static int countTables(int p, int n, boolean unlike) {
        int cells = n * (n - 1) / 2 * n;
        int count = 0;
        Set<String> seen = new HashSet<>();
        for (int code = 0; code < Math.round(Math.pow(p, cells)); code++) {
            W w = new W(p, n);
            int rest = code;
            for (int i = 0; i < n; i++) {
                for (int j = i + 1; j < n; j++) {
                    for (int k = 0; k < n; k++) {
                        w.set(i, j, k, rest % p);
                        rest /= p;
                    }
                }
            }
            if (w.breaking() != null) {
                continue;
            }
            if (!unlike) {
                count++;
            } else if (!seen.contains(Arrays.deepToString(w.c))) {
                count++;
                addOrbit(w, new int[n], 0, seen);
            }
        }
        return count;
    }

    private static void addOrbit(W w, int[] rows, int at, Set<String> seen) {
        if (at == w.n) {
            W r = changed(w, rows);
            if (r != null) {
                seen.add(Arrays.deepToString(r.c));
            }
            return;
        }
        for (int x = 0; x < w.all(); x++) {
            rows[at] = x;
            addOrbit(w, rows, at + 1, seen);
        }
    }

    // ------------------------------------------------------------------ texts

    static final class Fault extends RuntimeException {
        final int kind;
        final int place;

        Fault(int kind, int place) {
            super(null, null, false, false);
            this.kind = kind;
            this.place = place;
        }
    }

    static final class Token {
        final String text;
        final int place;

        Token(String text, int place) {
            this.text = text;
            this.place = place;
        }
    }

    static final class Text {
        final List<Token> tokens = new ArrayList<>();
        int at;

        Text(String s) {
            int i = 0;
            while (i < s.length()) {
                if (s.charAt(i) == '\n' || s.charAt(i) == ' ') {
                    i++;
                    continue;
                }
                int j = i;
                while (j < s.length() && s.substring(i, j + 1).matches("[a-z]+|[0-9]+|[;<>=]")) {
                    j++;
                }
                String t = s.substring(i, j);
                if (t.isEmpty() || t.matches("[0-9]{5,}")) {
                    tokens.add(new Token("BAD", i));
                    return;
                }
                tokens.add(new Token(t, i));
                i = j;
            }
            tokens.add(new Token("", s.length()));
        }

        Token here() {
            return tokens.get(at);
        }

        boolean is(String word) {
            return here().text.equals(word);
        }

        void need(String word) {
            if (!is(word)) {
                throw no();
            }
            at++;
        }

        Fault no() {
            return new Fault(here().text.equals("BAD") ? 1 : 2, here().place);
        }

        int number(int... allowed) {
            if (!here().text.matches("[0-9]+")) {
                throw no();
            }
            int v = Integer.parseInt(here().text);
            for (int a : allowed) {
                if (a == v) {
                    at++;
                    return v;
                }
            }
            throw new Fault(4, here().place);
        }

        int from(int least, int most) {
            int[] a = new int[Math.max(0, most - least + 1)];
            for (int i = 0; i < a.length; i++) {
                a[i] = least + i;
            }
            return number(a);
        }
    }

    static W parseWorld(String s) {
        Text t = new Text(s);
        t.need("prime");
        int p = t.number(2, 3, 5, 7);
        t.need(";");
        t.need("size");
        W w = new W(p, t.from(1, limit(p)));
        t.need(";");
        Set<String> told = new HashSet<>();
        while (!t.is("")) {
            t.need("bracket");
            int i = t.from(0, w.n - 1);
            int place = t.here().place;
            int j = t.from(i + 1, w.n - 1);
            if (!told.add(i + " " + j)) {
                throw new Fault(5, place);
            }
            t.need("gives");
            Set<Integer> given = new HashSet<>();
            do {
                boolean less = t.is("less");
                if (less) {
                    t.at++;
                }
                int v = t.from(1, p - 1);
                t.need("of");
                place = t.here().place;
                int k = t.from(0, w.n - 1);
                if (!given.add(k)) {
                    throw new Fault(5, place);
                }
                w.set(i, j, k, less ? -v : v);
            } while (!t.is(";"));
            t.need(";");
        }
        return w;
    }

    static final class Node {
        String word;
        int a;
        int b;
        int c;
        String test;
        String sign;
        List<Node> body;
    }

    static final class Program {
        final List<Node> nodes;
        final int steps;

        Program(List<Node> nodes, int steps) {
            this.nodes = nodes;
            this.steps = steps;
        }
    }

    static Program parseScript(String s) {
        Text t = new Text(s);
        int[] steps = new int[1];
        List<Node> nodes = parseNodes(t, 0, steps);
        return new Program(nodes, steps[0]);
    }

    private static List<Node> parseNodes(Text t, int depth, int[] steps) {
        List<Node> l = new ArrayList<>();
        while (true) {
            if (t.is("") && depth == 0) {
                return l;
            }
            if (t.is("end") && depth > 0) {
                t.at++;
                t.need(";");
                return l;
            }
            if (!List.of("swap", "scale", "add", "keep", "take", "sum", "when", "loop", "stop").contains(t.here().text)) {
                throw t.no();
            }
            if (steps[0] == 30) {
                throw new Fault(6, t.here().place);
            }
            Node n = new Node();
            n.word = t.here().text;
            if ((n.word.equals("when") || n.word.equals("loop")) && depth == 3) {
                throw new Fault(7, t.here().place);
            }
            t.at++;
            steps[0]++;
            l.add(n);
            parseNode(t, n);
            t.need(";");
            if (n.word.equals("when") || n.word.equals("loop")) {
                n.body = parseNodes(t, depth + 1, steps);
            }
        }
    }

    private static void parseNode(Text t, Node n) {
        switch (n.word) {
            case "swap":
                n.a = t.from(0, 4);
                n.b = t.from(0, 4);
                break;
            case "scale":
                n.a = t.from(0, 4);
                t.need("by");
                n.b = t.from(1, 6);
                break;
            case "add":
                n.a = t.from(0, 6);
                t.need("of");
                n.b = t.from(0, 4);
                t.need("to");
                n.c = t.from(0, 4);
                break;
            case "keep":
            case "take":
            case "sum":
                n.a = t.from(0, 3);
                break;
            case "loop":
                n.a = t.from(1, 99);
                break;
            case "when":
                n.test = t.here().text;
                if (!List.of("lawful", "abelian", "nilpotent", "solvable", "derived", "size", "same").contains(n.test)) {
                    throw t.no();
                }
                t.at++;
                if (n.test.equals("derived")) {
                    n.a = t.from(0, 5);
                }
                if (n.test.equals("derived") || n.test.equals("size")) {
                    n.sign = t.here().text;
                    if (!List.of("<", ">", "=").contains(n.sign)) {
                        throw t.no();
                    }
                    t.at++;
                    n.b = t.from(0, 5);
                }
                if (n.test.equals("same")) {
                    n.a = t.from(0, 3);
                }
                break;
            default:
                break;
        }
    }

    // ------------------------------------------------------------------ the room

    int status;
    long top;
    long bottom = 1;
    private final long[][] trays = new long[4][];
    private final int[] sorts = new int[4];
    W world = new W(2, 1);
    W[] shelves = new W[4];
    private Program script;
    private final StringBuilder tape = new StringBuilder();
    private int faultKind = NONE;
    private int faultPlace = NONE;
    private int tries = NONE;
    private int[] ran;
    private final List<Object[]> marks = new ArrayList<>();

    private int no(int s) {
        status = s;
        return NONE;
    }

    private int yes(int v) {
        status = 0;
        return v;
    }

    private int yes(boolean b) {
        return yes(b ? 1 : 0);
    }

    /** Booleans count 1 and 0 here, a refused one 0. */
    private int refuse(int s) {
        status = s;
        return 0;
    }

    int tray(int tray, int sort, int many) {
        if (tray < 0 || tray > 3 || sort < 0 || sort > 3) {
            return refuse(1);
        }
        if (many > 60) {
            return refuse(5);
        }
        if (many < 0) {
            return refuse(6);
        }
        trays[tray] = new long[many];
        sorts[tray] = sort;
        return yes(1);
    }

    private int trayBad(int tray) {
        return tray < 0 || tray > 3 ? 1 : trays[tray] == null ? 3 : 0;
    }

    int write(int tray, int place, long v) {
        int bad = trayBad(tray);
        if (bad != 0) {
            return refuse(bad);
        }
        if (place < 0 || place >= trays[tray].length) {
            return refuse(4);
        }
        int bits = 64 - (8 << sorts[tray]);
        trays[tray][place] = v << bits >> bits;
        return yes(1);
    }

    long read(int tray, int place) {
        int bad = trayBad(tray);
        if (bad != 0) {
            return no(bad);
        }
        if (place < 0 || place >= trays[tray].length) {
            return no(4);
        }
        status = 0;
        return trays[tray][place];
    }

    int pour(int tray, int i, int to, int j, int many) {
        if (trayBad(tray) == 1 || trayBad(to) == 1) {
            return refuse(1);
        }
        if (trayBad(tray) == 3 || trayBad(to) == 3) {
            return refuse(3);
        }
        if (sorts[tray] != sorts[to]) {
            return refuse(11);
        }
        if (many < 0) {
            return refuse(6);
        }
        if (i < 0 || j < 0 || (long) i + many > trays[tray].length || (long) j + many > trays[to].length) {
            return refuse(4);
        }
        long[] old = trays[tray].clone();
        for (int k = 0; k < many; k++) {
            trays[to][j + k] = old[i + k];
        }
        return yes(1);
    }

    int feed(int... ints) {
        if (tape.length() + 20 > 600) {
            return NONE;
        }
        for (int v : ints) {
            for (int s = 24; s >= 0; s -= 8) {
                tape.append((char) (v >>> s & 255));
            }
        }
        return tape.length();
    }

    int world(int n) {
        if (n < 0 || n > tape.length()) {
            return no(5);
        }
        String s = tape.substring(0, n);
        tape.setLength(0);
        try {
            world = parseWorld(s);
        } catch (Fault f) {
            return blamed(f);
        }
        faultKind = 0;
        faultPlace = NONE;
        return yes(world.n);
    }

    private int blamed(Fault f) {
        faultKind = f.kind;
        faultPlace = f.place;
        return no(10);
    }

    int script(int n) {
        if (n < 0 || n > tape.length() || n > 300) {
            return no(5);
        }
        String s = tape.substring(0, n);
        tape.setLength(0);
        try {
            script = parseScript(s);
        } catch (Fault f) {
            return blamed(f);
        }
        faultKind = 0;
        faultPlace = NONE;
        return yes(script.steps);
    }

    int fault(int what) {
        return what == 0 ? faultKind : what == 1 ? faultPlace : NONE;
    }

    int many(int what) {
        int count = 0;
        switch (what) {
            case 0: return yes(world.p);
            case 1: return yes(world.n);
            case 2:
                for (int i = 0; i < world.n; i++) {
                    for (int j = i + 1; j < world.n; j++) {
                        for (int v : world.c[i][j]) {
                            count += v != 0 ? 1 : 0;
                        }
                    }
                }
                return yes(count);
            case 3:
                for (int i = 0; i < 4; i++) {
                    count += shelves[i] != null ? 1 << i : 0;
                }
                return yes(count);
            default: return no(5);
        }
    }

    private boolean base(int... is) {
        for (int i : is) {
            if (i < 0 || i >= world.n) {
                return false;
            }
        }
        return true;
    }

    int constant(int i, int j, int k) {
        return base(i, j, k) ? yes(world.c[i][j][k]) : no(2);
    }

    int put(int i, int j, int k, int v) {
        if (!base(i, j, k)) {
            return refuse(2);
        }
        if (v < 0 || v >= world.p || i >= j) {
            return refuse(5);
        }
        world = world.copy();
        world.set(i, j, k, v);
        return yes(1);
    }

    private boolean vector(long x) {
        return x >= 0 && x < world.all();
    }

    int bracket(int x, int y) {
        return vector(x) && vector(y) ? yes(world.br(x, y)) : no(2);
    }

    int lawful() {
        return yes(world.breaking() == null);
    }

    int failing(int what) {
        if (what < 0 || what > 2) {
            return no(5);
        }
        int[] b = world.breaking();
        return b == null ? no(8) : yes(b[what]);
    }

    int keep(int shelf) {
        if (shelf < 0 || shelf > 3) {
            return refuse(2);
        }
        shelves[shelf] = world;
        return yes(1);
    }

    private int shelfBad(int shelf) {
        return shelf < 0 || shelf > 3 ? 2 : shelves[shelf] == null ? 8 : 0;
    }

    int take(int shelf) {
        int bad = shelfBad(shelf);
        if (bad != 0) {
            return refuse(bad);
        }
        world = shelves[shelf];
        return yes(1);
    }

    /** Null, with STATUS, if they can't be had. */
    private BitSet vectors(int tray, int many, int least, boolean whatGood) {
        int bad = trayBad(tray);
        if (bad == 0 && (many < least || many > 20 || !whatGood)) {
            bad = 5;
        }
        if (bad == 0 && many > trays[tray].length) {
            bad = 4;
        }
        List<Integer> g = new ArrayList<>();
        for (int i = 0; bad == 0 && i < many; i++) {
            if (!vector(trays[tray][i])) {
                bad = 5;
            }
            g.add((int) trays[tray][i]);
        }
        if (bad != 0) {
            no(bad);
            return null;
        }
        return Model.span(world, g);
    }

    int span(int tray, int many, int what) {
        BitSet s = vectors(tray, many, 0, what >= 0 && what <= 2);
        if (s == null) {
            return NONE;
        }
        return yes(dim(world, what == 0 ? s : close(world, s, what == 2)));
    }

    int derived(int k) {
        return k < 0 || k > 9 ? no(5) : yes(dim(world, series(world, whole(world), k, false)));
    }

    int lower(int k) {
        return k < 0 || k > 9 ? no(5) : yes(dim(world, series(world, whole(world), k, true)));
    }

    int centre() {
        return yes(dim(world, centre(world)));
    }

    int centralizer(int x) {
        return vector(x) ? yes(dim(world, centralizer(world, x))) : no(2);
    }

    private boolean isSo(int what) {
        switch (what) {
            case 0: return brackets(world, whole(world), whole(world)).cardinality() == 1;
            case 1: return series(world, whole(world), 9, true).cardinality() == 1;
            case 2: return series(world, whole(world), 9, false).cardinality() == 1;
            case 3: return series(world, whole(world), 1, false).equals(whole(world));
            case 4:
                for (int d = 1; d < world.n; d++) {
                    for (BitSet s : allSpans(world).get(d)) {
                        if (kind(world, s, 1)) {
                            return false;
                        }
                    }
                }
                return !isSo(0);
            default:
                for (int x = 0; x < world.all(); x++) {
                    if (trace(matrix(world, x), world.p) != 0) {
                        return false;
                    }
                }
                return true;
        }
    }

    int is(int what) {
        return what < 0 || what > 5 ? no(5) : yes(isSo(what));
    }

    int radical(int what) {
        if (what < 0 || what > 1) {
            return no(5);
        }
        int best = 0;
        for (int d = 0; d <= world.n; d++) {
            for (BitSet s : allSpans(world).get(d)) {
                if (kind(world, s, 1) && series(world, s, 9, what == 1).cardinality() == 1) {
                    best = d;
                }
            }
        }
        return yes(best);
    }

    int parts(int size, int what) {
        if (size < 0 || size > world.n || what < 0 || what > 3) {
            return no(5);
        }
        int count = 0;
        for (BitSet s : allSpans(world).get(size)) {
            count += kind(world, s, what) ? 1 : 0;
        }
        return yes(count);
    }

    int share() {
        int good = 0;
        int all = 0;
        for (int d = 0; d <= world.n; d++) {
            good += parts(d, 0);
            all += allSpans(world).get(d).size();
        }
        for (int f = all; f > 0; f--) {
            if (good % f == 0 && all % f == 0) {
                top = good / f;
                bottom = all / f;
                return yes(1);
            }
        }
        throw new IllegalStateException();
    }

    int rank(int x) {
        return vector(x) ? yes(Model.rank(matrix(world, x), world.p)) : no(2);
    }

    int power(int x) {
        if (!vector(x)) {
            return no(2);
        }
        int[][] m = matrix(world, x);
        int[][] r = m;
        for (int k = 1; k <= world.n; k++) {
            if (Arrays.deepEquals(r, new int[world.n][world.n])) {
                return yes(k);
            }
            r = times(r, m, world.p);
        }
        return no(8);
    }

    int derivations(int what) {
        if (what < 0 || what > 2) {
            return no(5);
        }
        int all = derivationSize(world);
        int inner = world.n - dim(world, centre(world));
        return yes(what == 0 ? all : what == 1 ? inner : all - inner);
    }

    int form() {
        return yes(formRank(world));
    }

    int classes(int degree) {
        if (degree < 0 || degree > world.n) {
            return no(5);
        }
        return world.breaking() != null ? no(9) : yes(classSize(world, degree));
    }

    int commuting() {
        return yes(commuting(world));
    }

    int maps() {
        Search s = new Search();
        s.look(world, world, false);
        tries = s.tries;
        return s.spent ? no(9) : yes(s.found);
    }

    int sameAs(int shelf) {
        int bad = shelfBad(shelf);
        if (bad != 0) {
            return no(bad);
        }
        Search s = new Search();
        s.look(world, shelves[shelf], true);
        tries = s.tries;
        return s.spent ? no(9) : yes(s.found);
    }

    int tries() {
        return tries < 0 ? no(8) : yes(tries);
    }

    private static int telling(W w, int which) {
        switch (which) {
            case 1: return dim(w, series(w, whole(w), 1, false));
            case 2: return dim(w, series(w, whole(w), 2, false));
            case 3: return dim(w, series(w, whole(w), 2, true));
            case 4: return dim(w, centre(w));
            case 5: return derivationSize(w);
            case 6: return formRank(w);
            case 7: return classSize(w, 2);
            default: return commuting(w);
        }
    }

    int parted(int shelf) {
        int bad = shelfBad(shelf);
        if (bad != 0) {
            return no(bad);
        }
        W o = shelves[shelf];
        if (o.p != world.p || o.n != world.n) {
            return yes(0);
        }
        for (int i = 1; i <= 8; i++) {
            if (telling(world, i) != telling(o, i)) {
                return yes(i);
            }
        }
        return no(8);
    }

    private int numbersBad(int tray, int many, int least, int most) {
        int bad = trayBad(tray);
        if (bad == 0 && trays[tray].length < many) {
            bad = 4;
        }
        for (int i = 0; bad == 0 && i < many; i++) {
            if (trays[tray][i] < least || trays[tray][i] > most) {
                bad = 5;
            }
        }
        return bad;
    }

    int change(int tray) {
        int n = world.n;
        int bad = numbersBad(tray, n * n, 0, world.p - 1);
        if (bad != 0) {
            return refuse(bad);
        }
        int[] rows = new int[n];
        for (int i = 0; i < n; i++) {
            int[] d = new int[n];
            for (int k = 0; k < n; k++) {
                d[k] = (int) trays[tray][i * n + k];
            }
            rows[i] = world.number(d);
        }
        W w = changed(world, rows);
        if (w == null) {
            return refuse(9);
        }
        world = w;
        return yes(1);
    }

    int squeeze(int tray) {
        int n = world.n;
        int bad = numbersBad(tray, n, -20, 20);
        if (bad != 0) {
            return refuse(bad);
        }
        W w = world.copy();
        for (int i = 0; i < n; i++) {
            for (int j = i + 1; j < n; j++) {
                for (int k = 0; k < n; k++) {
                    long both = trays[tray][i] + trays[tray][j];
                    if (w.c[i][j][k] != 0 && both < trays[tray][k]) {
                        return refuse(9);
                    }
                    if (both > trays[tray][k]) {
                        w.set(i, j, k, 0);
                    }
                }
            }
        }
        world = w;
        return yes(1);
    }

    int barred(int shelf) {
        int bad = shelfBad(shelf);
        if (bad != 0) {
            return no(bad);
        }
        W o = shelves[shelf];
        if (o.p != world.p || o.n != world.n) {
            return no(5);
        }
        if (telling(o, 5) < telling(world, 5)) {
            return yes(1);
        }
        if (telling(o, 1) > telling(world, 1)) {
            return yes(2);
        }
        return yes(telling(o, 4) < telling(world, 4) ? 3 : 0);
    }

    int cocycle(int tray) {
        int bad = numbersBad(tray, world.n * (world.n - 1) / 2, 0, world.p - 1);
        return bad != 0 ? no(bad) : yes(closed(world, trays[tray]));
    }

    int grow(int tray) {
        if (world.n == limit(world.p)) {
            return no(7);
        }
        int bad = numbersBad(tray, world.n * (world.n - 1) / 2, 0, world.p - 1);
        if (bad != 0) {
            return no(bad);
        }
        if (!closed(world, trays[tray])) {
            return no(9);
        }
        W w = joined(world, new W(world.p, 1));
        int at = 0;
        for (int i = 0; i < world.n; i++) {
            for (int j = i + 1; j < world.n; j++) {
                w.set(i, j, world.n, (int) trays[tray][at]);
                at++;
            }
        }
        world = w;
        return yes(w.n);
    }

    private int sumBad(int shelf) {
        int bad = shelfBad(shelf);
        if (bad == 0 && shelves[shelf].p != world.p) {
            bad = 5;
        }
        if (bad == 0 && shelves[shelf].n + world.n > limit(world.p)) {
            bad = 7;
        }
        return bad;
    }

    int sum(int shelf) {
        int bad = sumBad(shelf);
        if (bad != 0) {
            return no(bad);
        }
        world = joined(world, shelves[shelf]);
        return yes(world.n);
    }

    int rest(int tray, int many) {
        BitSet s = vectors(tray, many, 1, true);
        if (s == null) {
            return NONE;
        }
        s = close(world, s, true);
        if (s.equals(whole(world))) {
            return no(9);
        }
        List<Integer> leads = leads(world, s);
        List<Integer> kept = new ArrayList<>();
        for (int i = 0; i < world.n; i++) {
            if (!leads.contains(i)) {
                kept.add(i);
            }
        }
        W w = new W(world.p, kept.size());
        for (int a = 0; a < w.n; a++) {
            for (int b = 0; b < w.n; b++) {
                int v = world.br(world.base(kept.get(a)), world.base(kept.get(b)));
                for (int u : members(s)) {
                    int[] d = world.digits(world.plus(v, u, 1));
                    boolean clean = true;
                    for (int l : leads) {
                        clean &= d[l] == 0;
                    }
                    for (int k = 0; clean && k < w.n; k++) {
                        w.c[a][b][k] = d[kept.get(k)];
                    }
                }
            }
        }
        world = w;
        return yes(w.n);
    }

    int takeOut(int tray, int many) {
        BitSet s = vectors(tray, many, 1, true);
        if (s == null) {
            return NONE;
        }
        if (s.cardinality() == 1) {
            return no(9);
        }
        s = close(world, s, false);
        List<Integer> leads = leads(world, s);
        List<Integer> rows = echelon(world, s);
        W w = new W(world.p, rows.size());
        for (int a = 0; a < w.n; a++) {
            for (int b = 0; b < w.n; b++) {
                int[] d = world.digits(world.br(rows.get(a), rows.get(b)));
                for (int k = 0; k < w.n; k++) {
                    w.c[a][b][k] = d[leads.get(k)];
                }
            }
        }
        world = w;
        return yes(w.n);
    }

    int tables(int prime, int size, int what) {
        boolean good = (prime == 2 || prime == 3) && (size == 1 || size == 2 || size == 3 && prime == 2);
        return good && (what == 0 || what == 1) ? yes(tables(prime, size, what == 1)) : no(5);
    }

    private static final class Over extends RuntimeException {
        Over() {
            super(null, null, false, false);
        }
    }

    int run() {
        if (script == null) {
            return no(8);
        }
        ran = new int[3];
        try {
            perform(script.nodes);
        } catch (Over o) {
            // all is over
        }
        return yes(ran[2]);
    }

    private void perform(List<Node> nodes) {
        for (Node n : nodes) {
            if (ran[2] == 300) {
                ran[1] = 1;
                throw new Over();
            }
            ran[2]++;
            switch (n.word) {
                case "stop":
                    throw new Over();
                case "when":
                    if (test(n)) {
                        perform(n.body);
                    }
                    break;
                case "loop":
                    for (int i = 0; i < n.a; i++) {
                        perform(n.body);
                    }
                    break;
                default:
                    ran[0] += step(n) ? 0 : 1;
            }
        }
    }

    private boolean test(Node n) {
        switch (n.test) {
            case "lawful": return world.breaking() == null;
            case "abelian": return isSo(0);
            case "nilpotent": return isSo(1);
            case "solvable": return isSo(2);
            case "same":
                if (shelves[n.a] == null) {
                    return false;
                }
                Search s = new Search();
                s.look(world, shelves[n.a], true);
                return s.found > 0;
            default:
                int v = n.test.equals("size") ? world.n : dim(world, series(world, whole(world), n.a, false));
                return n.sign.equals("<") ? v < n.b : n.sign.equals(">") ? v > n.b : v == n.b;
        }
    }

    private boolean step(Node n) {
        switch (n.word) {
            case "keep":
                shelves[n.a] = world;
                return true;
            case "take":
                if (shelves[n.a] == null) {
                    return false;
                }
                world = shelves[n.a];
                return true;
            case "sum":
                if (sumBad(n.a) != 0) {
                    return false;
                }
                world = joined(world, shelves[n.a]);
                return true;
            default:
                return rebase(n);
        }
    }

    private boolean rebase(Node n) {
        int[] rows = new int[world.n];
        for (int i = 0; i < world.n; i++) {
            rows[i] = world.base(i);
        }
        if (n.word.equals("scale")) {
            if (n.a >= world.n || n.b % world.p == 0) {
                return false;
            }
            rows[n.a] = world.plus(0, world.base(n.a), n.b);
        } else if (n.word.equals("swap")) {
            if (n.a >= world.n || n.b >= world.n || n.a == n.b) {
                return false;
            }
            rows[n.a] = world.base(n.b);
            rows[n.b] = world.base(n.a);
        } else {
            if (n.b >= world.n || n.c >= world.n || n.b == n.c) {
                return false;
            }
            rows[n.c] = world.plus(rows[n.c], world.base(n.b), n.a);
        }
        world = changed(world, rows);
        return true;
    }

    int ran(int what) {
        if (what < 0 || what > 1) {
            return no(5);
        }
        return ran == null ? no(8) : yes(ran[what]);
    }

    int mark() {
        if (marks.size() == 3) {
            return no(7);
        }
        marks.add(new Object[] {world, shelves.clone(), script});
        return yes(marks.size());
    }

    int back() {
        if (marks.isEmpty()) {
            return no(8);
        }
        Object[] m = marks.remove(marks.size() - 1);
        world = (W) m[0];
        shelves = (W[]) m[1];
        script = (Program) m[2];
        return yes(marks.size());
    }
}
