import java.util.function.Predicate;
import java.util.function.Supplier;
import java.util.function.ToLongFunction;

/** The edges of TRAYS, the TABLE, spans, maps, other worlds, MARKS: each sentence of the document that names a boundary. */
public final class EdgesTest {
    private static final int LOW = Integer.MIN_VALUE;
    private static final int HIGH = Integer.MAX_VALUE;
    private static final int[] FAR = {LOW, LOW + 1, -1, HIGH - 1, HIGH};
    private static final int[][] GREATEST = {{2, 5}, {3, 5}, {5, 4}, {7, 3}};
    private static final String HEISENBERG = "prime 3; size 3; bracket 0 1 gives 1 of 2;";
    private static final String AFFINE = "prime 5; size 2; bracket 0 1 gives 1 of 1;";
    private static final String CROSS =
            "prime 3; size 3; bracket 0 1 gives 1 of 2; bracket 1 2 gives 1 of 0; bracket 0 2 gives less 1 of 1;";
    private static final String OSCILLATOR =
            "prime 3; size 4; bracket 0 1 gives 1 of 1; bracket 0 2 gives 2 of 2; bracket 1 2 gives 1 of 3;";
    private static final String FILIFORM =
            "prime 3; size 5; bracket 0 1 gives 1 of 2; bracket 0 2 gives 1 of 3; bracket 0 3 gives 1 of 4;";
    // The OSCILLATOR one, and the CROSS one with two more that act on each other, told by other BASE vectors.
    private static final String DENSE_FOUR = "prime 3; size 4; bracket 0 1 gives 2 of 0 1 of 2 2 of 3; "
            + "bracket 0 2 gives 2 of 2; bracket 0 3 gives 1 of 0 1 of 2 1 of 3; bracket 1 2 gives 2 of 0 2 of 1 1 of 2 2 of 3; "
            + "bracket 1 3 gives 1 of 0 2 of 1 2 of 2 1 of 3; bracket 2 3 gives 2 of 0 2 of 1 2 of 3;";
    private static final String DENSE_FIVE = "prime 3; size 5; bracket 0 1 gives 1 of 0 2 of 2 2 of 3 1 of 4; "
            + "bracket 0 2 gives 1 of 2 1 of 4; bracket 0 3 gives 1 of 3; bracket 0 4 gives 1 of 2 2 of 3 1 of 4; "
            + "bracket 1 2 gives 1 of 0 2 of 2 1 of 3 2 of 4; bracket 1 3 gives 2 of 3; bracket 1 4 gives 2 of 3 1 of 4; "
            + "bracket 2 3 gives 1 of 0 1 of 2 1 of 3 2 of 4; bracket 2 4 gives 2 of 0 2 of 3 2 of 4; "
            + "bracket 3 4 gives 2 of 0 2 of 2 1 of 4;";
    private static final String BROKEN = "prime 3; size 3; bracket 0 1 gives 1 of 2; bracket 0 2 gives 1 of 0;";

    public static void main(String[] args) {
        calls();
        withoutStatus();
        cuts();
        trayNumbers();
        trayLengths();
        pours();
        greatestNumbers();
        putAndConstant();
        whats();
        noSuchVector();
        jacobi();
        shelves();
        spanOrder();
        spanEdges();
        series();
        kinds();
        partsOfEdges();
        fractions();
        powers();
        derivations();
        classes();
        tries();
        exactlySpent();
        lastTry();
        unlikeWorlds();
        parted();
        changeEdges();
        squeezeEdges();
        barredOrder();
        cocycles();
        growths();
        sums();
        rests();
        takings();
        allTables();
        leftovers();
        marks();
        refusals();
        Hand.end("EdgesTest");
    }

    private static BracketRoom room(String text) {
        return Hand.room(text);
    }

    private static void seen(BracketRoom r, String what, String due) {
        String got = Hand.table(r).trim();
        if (!got.equals(due)) {
            System.out.println(what + ": the TABLE is " + got + ", due is " + due);
        }
        Hand.due(what + ": the TABLE", got.equals(due), true);
    }

    // ---- the object

    private static void calls() {
        Hand.about("an object is used for at most 512 calls");
        BracketRoom r = room(HEISENBERG);
        // The text of 42 bytes took three feed() and a world().
        for (int made = 4; made < 510; made += 2) {
            Hand.due("put()", r.put(0, 1, 2, made % 3), true);
            Hand.due("constant()", r.constant(0, 1, 2), made % 3);
        }
        Hand.due("put() as the 511th call", r.put(0, 1, 2, 1), true);
        Hand.due("many(2) as the 512th call", r.many(2), 1);
        BracketRoom s = room("prime 2; size 3;");
        for (int i = 0; i < 500; i++) {
            Hand.due("maps()", s.maps(), 168);
        }
    }

    private static void withoutStatus() {
        Hand.about("status(), fault(), feed(), top(), bottom() have none");
        BracketRoom r = new BracketRoom();
        r.take(0);
        r.status();
        r.fault(9);
        r.fault(0);
        r.top();
        r.bottom();
        for (int i = 0; i < 31; i++) {
            r.feed(0, 0, 0, 0, 0);
        }
        Hand.due("status()", r.status(), 8);
        Hand.granted(r, "many(0)", r.many(0), 2);
    }

    // ---- TRAYS

    private static void cut(int sort, long v, long due) {
        BracketRoom r = new BracketRoom();
        r.tray(2, sort, 3);
        Hand.granted(r, "write(2, 1, " + v + ")", r.write(2, 1, v));
        Hand.granted(r, "read() of " + v + " by sort " + sort, r.read(2, 1), due);
        Hand.granted(r, "read() of the place ahead", r.read(2, 0), 0);
        Hand.granted(r, "read() of the place behind", r.read(2, 2), 0);
    }

    private static void cuts() {
        Hand.about("rows of numbers of 8 bits (sort 0), 16 (1), 32 (2) or 64 (3), with sign; what is written is cut");
        int[] bits = {8, 16, 32, 64};
        for (int sort = 0; sort < 4; sort++) {
            long most = sort == 3 ? Long.MAX_VALUE : (1L << bits[sort] - 1) - 1;
            cut(sort, most, most);
            cut(sort, most + 1, -most - 1);
            cut(sort, -most - 1, -most - 1);
            cut(sort, -most - 2, most);
            cut(sort, 2 * most + 1, -1);
            cut(sort, 2 * most + 2, 0);
            cut(sort, -1, -1);
            cut(sort, Long.MAX_VALUE, sort == 3 ? Long.MAX_VALUE : -1);
            cut(sort, Long.MIN_VALUE, sort == 3 ? Long.MIN_VALUE : 0);
        }
    }

    /** A call with a TRAY: 1 ahead of 3, whatever else it is told. */
    private static void trayCall(String name, ToLongFunction<BracketRoom> bad, ToLongFunction<BracketRoom> missing) {
        Hand.kept(() -> room(HEISENBERG), name + " of no such TRAY", 1, bad);
        Hand.kept(() -> room(HEISENBERG), name + " of a TRAY that is MISSING", 3, missing);
    }

    private static void trayCallFalse(String name, Predicate<BracketRoom> bad, Predicate<BracketRoom> missing) {
        Hand.keptFalse(() -> room(HEISENBERG), name + " of no such TRAY", 1, bad);
        Hand.keptFalse(() -> room(HEISENBERG), name + " of a TRAY that is MISSING", 3, missing);
    }

    private static void trayNumbers() {
        Hand.about("TRAYS, 0 to 3; 1 no such TRAY (or sort); 3 the TRAY is MISSING");
        int[] wrong = {LOW, -1, 4, 5, HIGH};
        for (int t : wrong) {
            Hand.keptFalse(() -> room(HEISENBERG), "tray()", 1, r -> r.tray(t, 0, 1));
            Hand.keptFalse(() -> room(HEISENBERG), "tray() of a sort", 1, r -> r.tray(0, t, 1));
            Hand.keptFalse(() -> room(HEISENBERG), "tray() of a sort, 61", 1, r -> r.tray(0, t, 61));
            Hand.keptFalse(() -> room(HEISENBERG), "tray() of a sort, -1", 1, r -> r.tray(0, t, -1));
            for (int tray = 0; tray < 4; tray++) {
                int good = tray;
                trayCallFalse("write()", r -> r.write(t, -1, 0), r -> r.write(good, -1, 0));
                trayCall("read()", r -> r.read(t, -1), r -> r.read(good, -1));
                trayCallFalse("pour() from", r -> r.pour(t, -1, good, -1, -1), r -> r.pour(good, -1, good, -1, -1));
                trayCallFalse("pour() to", r -> r.pour(good, -1, t, -1, -1), r -> r.pour(good, -1, 3 - good, -1, -1));
                trayCall("span()", r -> r.span(t, -1, -1), r -> r.span(good, -1, -1));
                trayCallFalse("change()", r -> r.change(t), r -> r.change(good));
                trayCallFalse("squeeze()", r -> r.squeeze(t), r -> r.squeeze(good));
                trayCall("cocycle()", r -> r.cocycle(t), r -> r.cocycle(good));
                trayCall("grow()", r -> r.grow(t), r -> r.grow(good));
                trayCall("rest()", r -> r.rest(t, -1), r -> r.rest(good, -1));
                trayCall("takeOut()", r -> r.takeOut(t, -1), r -> r.takeOut(good, -1));
            }
        }
        Hand.about("0 to 3 are TRAYS of their own");
        BracketRoom r = new BracketRoom();
        for (int t = 0; t < 4; t++) {
            Hand.granted(r, "tray()", r.tray(t, 3, 60));
            Hand.granted(r, "write()", r.write(t, 0, 10 + t));
            Hand.granted(r, "write()", r.write(t, 59, 20 + t));
        }
        for (int t = 0; t < 4; t++) {
            Hand.granted(r, "read()", r.read(t, 0), 10 + t);
            Hand.granted(r, "read()", r.read(t, 59), 20 + t);
            Hand.granted(r, "read()", r.read(t, 30), 0);
        }
    }

    private static BracketRoom withTray(int many) {
        BracketRoom r = room(HEISENBERG);
        r.tray(1, 1, many);
        for (int i = 0; i < many; i++) {
            r.write(1, i, i + 1);
        }
        return r;
    }

    private static void trayLengths() {
        Hand.about("a row of so many numbers (at most 60; 5), all 0; 6 below 0 (a TRAY's length)");
        for (int many : new int[] {61, 62, HIGH}) {
            Hand.keptFalse(() -> withTray(2), "tray(1, 1, " + many + ")", 5, r -> r.tray(1, 1, many));
        }
        for (int many : new int[] {-1, -60, LOW}) {
            Hand.keptFalse(() -> withTray(2), "tray(1, 1, " + many + ")", 6, r -> r.tray(1, 1, many));
        }
        Hand.about("4 a place that the TRAY has not");
        for (int many : new int[] {0, 1, 59, 60}) {
            for (int place : new int[] {LOW, -1, many, many + 1, 60, HIGH}) {
                Hand.kept(() -> withTray(many), "read(1, " + place + ")", 4, r -> r.read(1, place));
                Hand.keptFalse(() -> withTray(many), "write(1, " + place + ")", 4, r -> r.write(1, place, 7));
            }
        }
        Hand.about("a TRAY that is made again has the new length, all 0");
        BracketRoom r = withTray(60);
        Hand.granted(r, "tray(1, 0, 1)", r.tray(1, 0, 1));
        Hand.granted(r, "read(1, 0)", r.read(1, 0), 0);
        Hand.refused(r, "read(1, 1)", r.read(1, 1), 4);
        Hand.granted(r, "tray(1, 0, 60)", r.tray(1, 0, 60));
        for (int i = 0; i < 60; i++) {
            Hand.granted(r, "read()", r.read(1, i), 0);
        }
        Hand.granted(r, "tray(1, 0, 0)", r.tray(1, 0, 0));
        Hand.refused(r, "read(1, 0) of a TRAY of none", r.read(1, 0), 4);
        Hand.granted(r, "tray(1, 3, 1)", r.tray(1, 3, 1));
        r.write(1, 0, Long.MIN_VALUE);
        Hand.granted(r, "read(1, 0) of the new sort", r.read(1, 0), Long.MIN_VALUE);
    }

    private static BracketRoom twoTrays(int sort, int other) {
        BracketRoom r = new BracketRoom();
        Hand.fill(r, 0, sort, 1, 2, 3, 4);
        Hand.fill(r, 1, other, -1, -2, -3);
        return r;
    }

    private static void pour(int tray, int i, int to, int j, int many, long... due) {
        BracketRoom r = twoTrays(2, 2);
        String call = "pour(" + tray + ", " + i + ", " + to + ", " + j + ", " + many + ")";
        Hand.granted(r, call, r.pour(tray, i, to, j, many));
        for (int k = 0; k < due.length; k++) {
            Hand.due(call + ", then read(" + to + ", " + k + ")", r.read(to, k), due[k]);
        }
    }

    private static void pours() {
        Hand.about("so many numbers from place i on come to place j on of another one, or the same, as they were");
        pour(0, 0, 1, 0, 3, 1, 2, 3);
        pour(0, 1, 1, 0, 3, 2, 3, 4);
        pour(1, 0, 0, 1, 3, 1, -1, -2, -3);
        pour(0, 3, 1, 2, 1, -1, -2, 4);
        pour(0, 0, 0, 1, 3, 1, 1, 2, 3);
        pour(0, 1, 0, 0, 3, 2, 3, 4, 4);
        pour(0, 0, 0, 0, 4, 1, 2, 3, 4);
        pour(0, 4, 1, 3, 0, -1, -2, -3);
        Hand.about("pour: 1, 3 (either), 11, 6, 4, asked in this order");
        for (int sort = 0; sort < 4; sort++) {
            for (int other = 0; other < 4; other++) {
                int a = sort;
                int b = other;
                int due = a == b ? 6 : 11;
                Hand.keptFalse(() -> twoTrays(a, b), "pour() of sorts", due, r -> r.pour(0, -1, 1, -1, -1));
            }
        }
        for (int many : new int[] {-1, LOW}) {
            Hand.keptFalse(() -> twoTrays(1, 1), "pour() of " + many, 6, r -> r.pour(0, 0, 1, 0, many));
        }
        int[][] off = {{-1, 0, 1}, {LOW, 0, 1}, {0, -1, 1}, {0, LOW, 1}, {4, 0, 1}, {0, 3, 1}, {2, 0, 3}, {0, 1, 3}, {0, 0, 4},
            {1, 0, HIGH}, {HIGH, 0, HIGH}, {0, HIGH, HIGH}, {0, HIGH, 1}, {HIGH, 0, 1}, {-1, 0, 0}, {0, -1, 0}, {5, 0, 0}, {0, 4, 0}};
        for (int[] o : off) {
            String call = "pour(0, " + o[0] + ", 1, " + o[1] + ", " + o[2] + ")";
            Hand.keptFalse(() -> twoTrays(1, 1), call, 4, r -> r.pour(0, o[0], 1, o[1], o[2]));
        }
    }

    // ---- the TABLE

    private static String empty(int p, int n) {
        return "prime " + p + "; size " + n + ";";
    }

    private static void greatestNumbers() {
        Hand.about("a VECTOR is a number: 0 to p to the n, less 1");
        for (int[] g : GREATEST) {
            for (int n = 1; n <= g[1]; n++) {
                BracketRoom r = room(empty(g[0], n));
                int all = (int) Math.pow(g[0], n);
                Hand.granted(r, "bracket(all less 1)", r.bracket(all - 1, all - 1), 0);
                Hand.granted(r, "bracket(0, 0)", r.bracket(0, 0), 0);
                Hand.granted(r, "centralizer(all less 1)", r.centralizer(all - 1), n);
                Hand.granted(r, "rank(all less 1)", r.rank(all - 1), 0);
                Hand.granted(r, "power(all less 1)", r.power(all - 1), 1);
                for (int x : new int[] {all, all + 1, -1, LOW, HIGH}) {
                    Hand.refused(r, "bracket(x, 0)", r.bracket(x, 0), 2);
                    Hand.refused(r, "bracket(0, x)", r.bracket(0, x), 2);
                    Hand.refused(r, "centralizer(x)", r.centralizer(x), 2);
                    Hand.refused(r, "rank(x)", r.rank(x), 2);
                    Hand.refused(r, "power(x)", r.power(x), 2);
                }
                // Where all may be written to a TRAY of 64 bits, the last VECTOR is one and the next is none.
                Hand.fill(r, 0, 3, all - 1, all, -1, Long.MIN_VALUE, Long.MAX_VALUE, 1L << 32);
                Hand.granted(r, "span() of the last VECTOR", r.span(0, 1, 0), 1);
                for (int place = 1; place < 6; place++) {
                    r.pour(0, place, 0, 0, 1);
                    Hand.refused(r, "span() of no VECTOR", r.span(0, 1, 0), 5);
                }
            }
        }
        Hand.about("the BRACKET is linear in both, also in the greatest SIZES");
        BracketRoom r = room("prime 2; size 5; bracket 3 4 gives 1 of 0 1 of 4; bracket 0 1 gives 1 of 3;");
        Hand.granted(r, "bracket(8, 16)", r.bracket(8, 16), 17);
        Hand.granted(r, "bracket(31, 3)", r.bracket(31, 3), 0);
        Hand.granted(r, "bracket(9, 18)", r.bracket(9, 18), 17 ^ 8);
        r = room("prime 3; size 5; bracket 3 4 gives 2 of 0 1 of 4;");
        Hand.granted(r, "bracket(54, 81)", r.bracket(54, 81), 1 + 2 * 81);
        Hand.granted(r, "bracket(81, 54)", r.bracket(81, 54), 2 + 81);
        r = room("prime 5; size 4; bracket 0 3 gives 4 of 0 3 of 3;");
        Hand.granted(r, "bracket(4, 500)", r.bracket(4, 500), 4 + 3 * 125);
        r = room("prime 7; size 3; bracket 1 2 gives 6 of 0 6 of 1 6 of 2;");
        Hand.granted(r, "bracket(42, 294)", r.bracket(42, 294), 6 + 6 * 7 + 6 * 49);
    }

    private static void putAndConstant() {
        Hand.about("put: 0 to p less 1 (2; 5: i not below j, too)");
        for (int[] g : GREATEST) {
            int p = g[0];
            int n = g[1];
            BracketRoom r = room(empty(p, n));
            for (int v = 0; v < p; v++) {
                Hand.granted(r, "put(0, 1, 1, " + v + ")", r.put(0, 1, 1, v));
                Hand.granted(r, "constant(0, 1, 1)", r.constant(0, 1, 1), v);
                Hand.granted(r, "constant(1, 0, 1)", r.constant(1, 0, 1), (p - v) % p);
                Hand.granted(r, "many(2)", r.many(2), v == 0 ? 0 : 1);
            }
            for (int v : new int[] {-1, p, p + 1, LOW, HIGH}) {
                Hand.refused(r, "put(0, 1, 1, " + v + ")", r.put(0, 1, 1, v), 5);
                Hand.refused(r, "put() of no such BASE vector, " + v, r.put(0, 1, n, v), 2);
            }
            Hand.due("constant(0, 1, 1) behind refusals", r.constant(0, 1, 1), p - 1);
            Hand.granted(r, "put() of the last ones", r.put(n - 2, n - 1, n - 1, 1));
            Hand.refused(r, "put() of a couple the other way", r.put(n - 1, n - 2, 0, 1), 5);
            Hand.refused(r, "put() of one with itself", r.put(n - 1, n - 1, 0, 0), 5);
            for (int bad : new int[] {n, -1, LOW, HIGH}) {
                Hand.refused(r, "put(bad, 1, 0)", r.put(bad, 1, 0, 1), 2);
                Hand.refused(r, "put(0, bad, 0)", r.put(0, bad, 0, 1), 2);
                Hand.refused(r, "put(0, 1, bad)", r.put(0, 1, bad, 1), 2);
                Hand.refused(r, "constant(bad, 0, 0)", r.constant(bad, 0, 0), 2);
                Hand.refused(r, "constant(0, bad, 0)", r.constant(0, bad, 0), 2);
                Hand.refused(r, "constant(0, 0, bad)", r.constant(0, 0, bad), 2);
            }
            for (int i = 0; i < n; i++) {
                Hand.granted(r, "constant(i, i, i): of itself 0", r.constant(i, i, i), 0);
            }
        }
        Hand.about("in a WORLD of SIZE 1 there is no couple");
        BracketRoom r = new BracketRoom();
        Hand.granted(r, "constant(0, 0, 0)", r.constant(0, 0, 0), 0);
        Hand.refused(r, "put(0, 0, 0, 0)", r.put(0, 0, 0, 0), 5);
        Hand.refused(r, "put(0, 1, 0, 0)", r.put(0, 1, 0, 0), 2);
        Hand.granted(r, "bracket(1, 1)", r.bracket(1, 1), 0);
    }

    private static void what(String name, int least, int most, ToLongFunction<Integer> call, BracketRoom r) {
        for (int w : new int[] {least - 1, most + 1, LOW, HIGH}) {
            Hand.refused(r, name + "(" + w + ")", call.applyAsLong(w), 5);
        }
        for (int w = least; w <= most; w++) {
            call.applyAsLong(w);
            Hand.due("status() of " + name + "(" + w + ")", r.status(), 0);
        }
    }

    private static void whats() {
        Hand.about("5 a number that can't be: what, k, degree, size");
        BracketRoom r = room(HEISENBERG);
        what("many", 0, 3, r::many, r);
        what("derived", 0, 9, r::derived, r);
        what("lower", 0, 9, r::lower, r);
        what("is", 0, 5, r::is, r);
        what("radical", 0, 1, r::radical, r);
        what("derivations", 0, 2, r::derivations, r);
        what("classes", 0, 3, r::classes, r);
        what("parts, what", 0, 3, w -> r.parts(1, w), r);
        what("parts, size", 0, 3, n -> r.parts(n, 0), r);
        what("tables, what", 0, 1, w -> r.tables(2, 1, w), r);
        r.tray(0, 0, 1);
        what("span, what", 0, 2, w -> r.span(0, 1, w), r);
        BracketRoom s = room(BROKEN);
        what("failing", 0, 2, s::failing, s);
        Hand.script(s, "stop;");
        s.run();
        what("ran", 0, 1, s::ran, s);
        Hand.about("5 goes ahead of 8, 9");
        BracketRoom t = room(HEISENBERG);
        Hand.refused(t, "failing(3) of a LAWFUL one", t.failing(3), 5);
        Hand.refused(t, "failing(2) of a LAWFUL one", t.failing(2), 8);
        Hand.refused(t, "ran(2) ahead of any", t.ran(2), 5);
        Hand.refused(s, "classes(4) of one that is not LAWFUL", s.classes(4), 5);
        Hand.refused(s, "classes(-1) of one that is not LAWFUL", s.classes(-1), 5);
        Hand.refused(s, "classes(3) of one that is not LAWFUL", s.classes(3), 9);
        Hand.refused(s, "classes(0) of one that is not LAWFUL", s.classes(0), 9);
    }

    private static void noSuchVector() {
        Hand.about("2 no such SHELF goes ahead of 8");
        BracketRoom r = room(HEISENBERG);
        for (int shelf : new int[] {LOW, -1, 4, HIGH}) {
            Hand.refused(r, "keep()", r.keep(shelf), 2);
            Hand.refused(r, "take()", r.take(shelf), 2);
            Hand.refused(r, "sameAs()", r.sameAs(shelf), 2);
            Hand.refused(r, "parted()", r.parted(shelf), 2);
            Hand.refused(r, "barred()", r.barred(shelf), 2);
            Hand.refused(r, "sum()", r.sum(shelf), 2);
        }
        for (int shelf = 0; shelf < 4; shelf++) {
            Hand.refused(r, "take()", r.take(shelf), 8);
            Hand.refused(r, "sameAs()", r.sameAs(shelf), 8);
            Hand.refused(r, "parted()", r.parted(shelf), 8);
            Hand.refused(r, "barred()", r.barred(shelf), 8);
            Hand.refused(r, "sum()", r.sum(shelf), 8);
        }
        Hand.due("many(3)", r.many(3), 0);
        Hand.refused(r, "tries() behind refusals", r.tries(), 8);
    }

    private static void fails(String text, int i, int j, int k) {
        BracketRoom r = room(text);
        Hand.granted(r, "lawful() of " + text, r.lawful(), i < 0 ? 1 : 0);
        int[] due = {i, j, k};
        for (int what = 0; what < 3; what++) {
            if (i < 0) {
                Hand.refused(r, "failing() of " + text, r.failing(what), 8);
            } else {
                Hand.granted(r, "failing(" + what + ") of " + text, r.failing(what), due[what]);
            }
        }
    }

    private static void jacobi() {
        Hand.about("the first three that break JACOBI (the least i, then j, then k)");
        fails("prime 7; size 1;", -1, 0, 0);
        fails("prime 7; size 2; bracket 0 1 gives 6 of 0 6 of 1;", -1, 0, 0);
        fails("prime 3; size 3; bracket 0 1 gives 1 of 2; bracket 0 2 gives 1 of 0;", 0, 1, 2);
        // [0, 1] is 2, and 2 acts on 3 alone: it is 0, 1, 3 that break.
        fails("prime 3; size 4; bracket 0 1 gives 1 of 2; bracket 2 3 gives 1 of 3;", 0, 1, 3);
        fails("prime 3; size 4; bracket 0 2 gives 1 of 1; bracket 1 3 gives 1 of 3;", 0, 2, 3);
        fails("prime 3; size 4; bracket 1 2 gives 1 of 0; bracket 0 3 gives 1 of 3;", 1, 2, 3);
        fails("prime 2; size 5; bracket 0 1 gives 1 of 2; bracket 2 4 gives 1 of 4;", 0, 1, 4);
        fails("prime 2; size 5; bracket 0 3 gives 1 of 2; bracket 2 4 gives 1 of 4;", 0, 3, 4);
        fails("prime 2; size 5; bracket 2 3 gives 1 of 0; bracket 0 4 gives 1 of 4;", 2, 3, 4);
        fails("prime 2; size 5; bracket 1 4 gives 1 of 0; bracket 0 2 gives 1 of 2;", 1, 2, 4);
        Hand.about("together 0 by p");
        // Of 0, 1, 2 each of the three brackets is 1 of 0: together 3 of it.
        for (int[] g : GREATEST) {
            String text = "prime " + g[0] + "; size 3; bracket 0 1 gives 1 of 1; bracket 0 2 gives 1 of 2; bracket 1 2 gives 1 of 0;";
            fails(text, g[0] == 2 ? -1 : 0, 1, 2);
        }
        fails(CROSS, -1, 0, 0);
        fails(OSCILLATOR, -1, 0, 0);
        fails(OSCILLATOR.replace("2 of 2", "1 of 2"), 0, 1, 2);
    }

    private static void shelves() {
        Hand.about("SHELVES, 0 to 3, hold a WORLD each, or nothing");
        BracketRoom r = new BracketRoom();
        int set = 0;
        for (int shelf : new int[] {2, 0, 3, 1}) {
            Hand.world(r, empty(3, shelf + 1));
            Hand.granted(r, "keep()", r.keep(shelf));
            set |= 1 << shelf;
            Hand.granted(r, "many(3)", r.many(3), set);
        }
        for (int shelf = 0; shelf < 4; shelf++) {
            Hand.granted(r, "take()", r.take(shelf));
            Hand.granted(r, "many(1)", r.many(1), shelf + 1);
        }
        Hand.granted(r, "many(3): they stay there", r.many(3), 15);
        r.put(0, 1, 3, 2);
        r.keep(0);
        Hand.world(r, HEISENBERG);
        r.keep(1);
        r.take(0);
        seen(r, "shelf 0", "3 4 1 15 [0 1] 2 of 3");
        r.take(3);
        seen(r, "shelf 3", "3 4 0 15");
        r.take(1);
        seen(r, "shelf 1", "3 3 1 15 [0 1] 1 of 2");
    }

    // ---- spans

    private static BracketRoom withVectors(String text, long... vectors) {
        BracketRoom r = room(text);
        Hand.fill(r, 2, 3, vectors);
        return r;
    }

    private static void spanOrder() {
        Hand.about("span: 1; 3; 5: so many, what; 4; 5: no VECTOR; in this order");
        Supplier<BracketRoom> maker = () -> withVectors(HEISENBERG, 27, -1);
        Hand.kept(maker, "span(4, 21, 3)", 1, r -> r.span(4, 21, 3));
        Hand.kept(maker, "span(3, 21, 3)", 3, r -> r.span(3, 21, 3));
        for (int many : new int[] {-1, 21, LOW, HIGH}) {
            Hand.kept(maker, "span(2, many, 0)", 5, r -> r.span(2, many, 0));
        }
        for (int what : new int[] {-1, 3, LOW, HIGH}) {
            Hand.kept(maker, "span(2, 3, what)", 5, r -> r.span(2, 3, what));
        }
        Hand.kept(maker, "span(2, 3, 0)", 4, r -> r.span(2, 3, 0));
        Hand.kept(maker, "span(2, 20, 2)", 4, r -> r.span(2, 20, 2));
        Hand.kept(maker, "span(2, 2, 0)", 5, r -> r.span(2, 2, 0));
        Hand.kept(maker, "span(2, 1, 1)", 5, r -> r.span(2, 1, 1));
        BracketRoom r = maker.get();
        Hand.granted(r, "span(2, 0, 0)", r.span(2, 0, 0), 0);
        Hand.about("rest, takeOut: 1; 3; 5: so many (1 to 20); 4; 5: no VECTOR; 9; in this order");
        for (int many : new int[] {0, -1, 21, LOW, HIGH}) {
            Hand.kept(maker, "rest(2, " + many + ")", 5, x -> x.rest(2, many));
            Hand.kept(maker, "takeOut(2, " + many + ")", 5, x -> x.takeOut(2, many));
        }
        Hand.kept(maker, "rest(2, 3)", 4, x -> x.rest(2, 3));
        Hand.kept(maker, "takeOut(2, 20)", 4, x -> x.takeOut(2, 20));
        Hand.kept(maker, "rest(2, 2)", 5, x -> x.rest(2, 2));
        Hand.kept(maker, "takeOut(2, 1)", 5, x -> x.takeOut(2, 1));
        Hand.kept(() -> withVectors(HEISENBERG, 1, 3, 27), "rest(2, 3): 5 goes ahead of 9", 5, x -> x.rest(2, 3));
        Hand.kept(() -> withVectors(HEISENBERG, 0, 27), "takeOut(2, 2): 5 goes ahead of 9", 5, x -> x.takeOut(2, 2));
        Hand.kept(() -> withVectors(HEISENBERG, 1, 3, 27), "rest(2, 2)", 9, x -> x.rest(2, 2));
        Hand.kept(() -> withVectors(HEISENBERG, 0, 0, 27), "takeOut(2, 2)", 9, x -> x.takeOut(2, 2));
    }

    private static void spanOf(String text, int plain, int part, int ideal, long... vectors) {
        BracketRoom r = withVectors(text, vectors);
        int many = vectors.length;
        String before = Hand.table(r);
        Hand.granted(r, "span() of " + text, r.span(2, many, 0), plain);
        Hand.granted(r, "span(), the PART, of " + text, r.span(2, many, 1), part);
        Hand.granted(r, "span(), the IDEAL, of " + text, r.span(2, many, 2), ideal);
        Hand.due("the WORLD stays", Hand.table(r).equals(before), true);
    }

    private static void spanEdges() {
        Hand.about("the SIZE of the SPAN, of the PART, of the IDEAL: the least that holds them");
        spanOf(HEISENBERG, 0, 0, 0);
        spanOf(HEISENBERG, 0, 0, 0, 0, 0, 0);
        spanOf(HEISENBERG, 1, 1, 2, 1, 2, 0);
        spanOf(HEISENBERG, 1, 1, 1, 9, 18);
        spanOf(HEISENBERG, 2, 3, 3, 4, 1);
        spanOf(HEISENBERG, 2, 2, 2, 1 + 9, 9);
        spanOf(FILIFORM, 2, 5, 5, 1, 3);
        spanOf(FILIFORM, 2, 3, 4, 1, 27);
        spanOf(FILIFORM, 1, 1, 4, 3);
        spanOf(FILIFORM, 1, 1, 3, 9 + 81);
        spanOf(FILIFORM, 2, 2, 4, 3, 9);
        spanOf(AFFINE, 1, 1, 2, 1);
        spanOf(AFFINE, 1, 1, 1, 20);
        spanOf(CROSS, 1, 1, 3, 26);
        spanOf(CROSS, 2, 3, 3, 1, 3);
        spanOf("prime 2; size 4; bracket 0 3 gives 1 of 1; bracket 1 2 gives 1 of 0;", 1, 1, 2, 2);
        // What is made comes ahead of what makes it: 3 and 4 make 2, then 1, then 0.
        String backwards = "prime 3; size 5; bracket 1 4 gives 2 of 0; bracket 2 4 gives 2 of 1; bracket 3 4 gives 2 of 2;";
        spanOf(backwards, 2, 5, 5, 27, 81);
        spanOf(backwards, 1, 1, 4, 27);
        Hand.about("20 VECTORS");
        BracketRoom r = room("prime 2; size 5;");
        r.tray(0, 0, 20);
        for (int i = 0; i < 20; i++) {
            r.write(0, i, i);
        }
        Hand.granted(r, "span(0, 20, 0)", r.span(0, 20, 0), 5);
        Hand.granted(r, "span(0, 16, 0)", r.span(0, 16, 0), 4);
        Hand.granted(r, "span(0, 17, 1)", r.span(0, 17, 1), 5);
        Hand.granted(r, "span(0, 1, 2)", r.span(0, 1, 2), 0);
    }

    private static void seriesOf(String text, int[] derived, int[] lower, int centre) {
        BracketRoom r = room(text);
        for (int k = 0; k <= 9; k++) {
            Hand.granted(r, "derived(" + k + ") of " + text, r.derived(k), derived[Math.min(k, derived.length - 1)]);
            Hand.granted(r, "lower(" + k + ") of " + text, r.lower(k), lower[Math.min(k, lower.length - 1)]);
        }
        Hand.granted(r, "centre() of " + text, r.centre(), centre);
    }

    private static void series() {
        Hand.about("DERIVED k, LOWER k (0 to 9): 0: all");
        seriesOf("prime 2; size 1;", new int[] {1, 0}, new int[] {1, 0}, 1);
        seriesOf("prime 5; size 4;", new int[] {4, 0}, new int[] {4, 0}, 4);
        seriesOf(AFFINE, new int[] {2, 1, 0}, new int[] {2, 1}, 0);
        seriesOf(HEISENBERG, new int[] {3, 1, 0}, new int[] {3, 1, 0}, 1);
        seriesOf(CROSS, new int[] {3}, new int[] {3}, 0);
        seriesOf(OSCILLATOR, new int[] {4, 3, 1, 0}, new int[] {4, 3}, 1);
        seriesOf(FILIFORM, new int[] {5, 3, 0}, new int[] {5, 3, 2, 1, 0}, 1);
        seriesOf(CROSS.replace("size 3", "size 5"), new int[] {5, 3}, new int[] {5, 3}, 2);
        // Each DERIVED one is a SIZE less: five of them, as many as there may be.
        seriesOf("prime 2; size 5; bracket 0 1 gives 1 of 1; bracket 0 2 gives 1 of 2; bracket 0 3 gives 1 of 3; "
                + "bracket 0 4 gives 1 of 4; bracket 1 2 gives 1 of 2; bracket 1 3 gives 1 of 3; bracket 1 4 gives 1 of 4; "
                + "bracket 2 3 gives 1 of 3; bracket 2 4 gives 1 of 4; bracket 3 4 gives 1 of 4;",
                new int[] {5, 4, 3, 2, 1, 0}, new int[] {5, 4}, 0);
    }

    private static void kind(String text, int... so) {
        BracketRoom r = room(text);
        for (int what = 0; what < 6; what++) {
            Hand.granted(r, "is(" + what + ") of " + text, r.is(what), so[what]);
        }
        Hand.granted(r, "radical(0) of " + text, r.radical(0), so[6]);
        Hand.granted(r, "radical(1) of " + text, r.radical(1), so[7]);
    }

    private static void kinds() {
        Hand.about("ABELIAN, NILPOTENT, SOLVABLE, PERFECT, SIMPLE, UNIMODULAR; RADICAL, NILRADICAL");
        kind("prime 7; size 1;", 1, 1, 1, 0, 0, 1, 1, 1);
        kind("prime 2; size 5;", 1, 1, 1, 0, 0, 1, 5, 5);
        kind(AFFINE, 0, 0, 1, 0, 0, 0, 2, 1);
        kind(FILIFORM, 0, 1, 1, 0, 0, 1, 5, 5);
        kind(OSCILLATOR, 0, 0, 1, 0, 0, 1, 4, 3);
        kind(CROSS, 0, 0, 0, 1, 1, 1, 0, 0);
        kind(CROSS.replace("size 3", "size 4"), 0, 0, 0, 0, 0, 1, 1, 1);
        // PERFECT but not SIMPLE: the CROSS one acts on a copy of itself .. by 2 the IDEAL of 3, 4 takes two alone.
        kind("prime 2; size 5; bracket 0 1 gives 1 of 2; bracket 0 2 gives 1 of 1; bracket 1 2 gives 1 of 0; "
                + "bracket 0 3 gives 1 of 3; bracket 0 4 gives 1 of 4;", 0, 0, 0, 1, 0, 1, 2, 2);
        Hand.about("SIMPLE: no IDEAL but 0 and all");
        // Without JACOBI: the line of the very last VECTOR, of the very first one.
        kind("prime 2; size 2; bracket 0 1 gives 1 of 0 1 of 1;", 0, 0, 1, 0, 0, 0, 2, 1);
        kind("prime 2; size 2; bracket 0 1 gives 1 of 0;", 0, 0, 1, 0, 0, 0, 2, 1);
    }

    private static void partsOf(String text, int[]... due) {
        BracketRoom r = room(text);
        for (int what = 0; what < 4; what++) {
            for (int size = 0; size < due[what].length; size++) {
                Hand.granted(r, "parts(" + size + ", " + what + ") of " + text, r.parts(size, what), due[what][size]);
            }
        }
        int n = due[0].length - 1;
        for (int what = 0; what < 4; what++) {
            Hand.refused(r, "parts(n and 1)", r.parts(n + 1, what), 5);
            Hand.refused(r, "parts(-1)", r.parts(-1, what), 5);
        }
        Hand.refused(r, "parts(HIGH)", r.parts(HIGH, 0), 5);
        Hand.refused(r, "parts(LOW)", r.parts(LOW, 0), 5);
    }

    private static void partsOfEdges() {
        Hand.about("how many SPANS of a SIZE (0 to n)");
        partsOf("prime 2; size 1;", new int[] {1, 1}, new int[] {1, 1}, new int[] {1, 1}, new int[] {0, 1});
        partsOf("prime 7; size 3;", new int[] {1, 57, 57, 1}, new int[] {1, 57, 57, 1}, new int[] {1, 57, 57, 1},
                new int[] {0, 0, 0, 1});
        partsOf("prime 2; size 5;", new int[] {1, 31, 155, 155, 31, 1}, new int[] {1, 31, 155, 155, 31, 1},
                new int[] {1, 31, 155, 155, 31, 1}, new int[] {0, 0, 0, 0, 0, 1});
        partsOf("prime 5; size 4;", new int[] {1, 156, 806, 156, 1}, new int[] {1, 156, 806, 156, 1},
                new int[] {1, 156, 806, 156, 1}, new int[] {0, 0, 0, 0, 1});
        partsOf(AFFINE, new int[] {1, 6, 1}, new int[] {1, 1, 1}, new int[] {1, 6, 0}, new int[] {0, 5, 0});
        // The HEISENBERG one, with each BASE vector once as the CENTRE.
        for (String text : new String[] {HEISENBERG, "prime 3; size 3; bracket 0 2 gives 2 of 1;", "prime 3; size 3; bracket 1 2 gives 1 of 0;"}) {
            partsOf(text, new int[] {1, 13, 4, 1}, new int[] {1, 1, 4, 1}, new int[] {1, 13, 4, 0}, new int[] {0, 0, 0, 1});
        }
        partsOf(CROSS, new int[] {1, 13, 4, 1}, new int[] {1, 0, 0, 1}, new int[] {1, 13, 0, 0}, new int[] {0, 9, 0, 0});
    }

    private static void share(String text, int top, int bottom) {
        BracketRoom r = room(text);
        Hand.due("top() ahead", r.top(), 0);
        Hand.due("bottom() ahead", r.bottom(), 1);
        Hand.granted(r, "share() of " + text, r.share());
        Hand.due("top() of " + text, r.top(), top);
        Hand.due("bottom() of " + text, r.bottom(), bottom);
    }

    private static void fractions() {
        Hand.about("FRACTIONS: without a common divisor, the bottom above 0; 0 is 0 by 1");
        share("prime 2; size 1;", 1, 1);
        share("prime 3; size 5;", 1, 1);
        // 19 of 28 there, 8 of 8 and 19 of 28 by other lines here: 1, 13, 4, 1 of 1, 13, 13, 1.
        share(CROSS, 19, 28);
        share(AFFINE, 1, 1);
        // No plane is a PART: 1, 7, 0, 1 of 1, 7, 7, 1.
        share("prime 2; size 3; bracket 0 1 gives 1 of 0 1 of 2; bracket 0 2 gives 1 of 1; bracket 1 2 gives 1 of 0 1 of 1;",
                5, 8);
        Hand.about("the FRACTION told latest stays");
        BracketRoom r = room(CROSS);
        r.share();
        r.parts(1, 0);
        r.parts(9, 9);
        r.mark();
        Hand.world(r, "prime 2; size 1;");
        Hand.due("top()", r.top(), 19);
        r.share();
        r.back();
        Hand.due("top()", r.top(), 1);
        Hand.due("bottom()", r.bottom(), 1);
    }

    // ---- maps that are linear

    private static void powers() {
        Hand.about("the least power (1 to n) of a VECTOR's MATRIX that is 0 (2; 8: none)");
        BracketRoom r = room("prime 3; size 5; bracket 0 4 gives 2 of 1; bracket 1 4 gives 2 of 2; bracket 2 4 gives 2 of 3; "
                + "bracket 3 4 gives 2 of 4;");
        // 4 takes 0 to 1 to 2 to 3 to itself to 0.
        Hand.granted(r, "power(81)", r.power(81), 5);
        Hand.granted(r, "rank(81)", r.rank(81), 4);
        Hand.granted(r, "power(0)", r.power(0), 1);
        r = room("prime 2; size 5; bracket 0 4 gives 1 of 1; bracket 1 4 gives 1 of 2; bracket 2 4 gives 1 of 3;");
        Hand.granted(r, "power(16)", r.power(16), 4);
        Hand.granted(r, "power(1)", r.power(1), 2);
        Hand.granted(r, "power(8)", r.power(8), 1);
        // 3 takes 1 to 0 to 2.
        r = room("prime 3; size 4; bracket 1 3 gives 2 of 0; bracket 0 3 gives 2 of 2;");
        Hand.granted(r, "power(27)", r.power(27), 3);
        Hand.granted(r, "power(54)", r.power(54), 3);
        // 3 takes 0 to 1 to 2.
        r = room("prime 3; size 4; bracket 0 3 gives 2 of 1; bracket 1 3 gives 2 of 2;");
        Hand.granted(r, "power(27)", r.power(27), 3);
        // 3 takes 2 to 1 to 0.
        r = room("prime 3; size 4; bracket 2 3 gives 2 of 1; bracket 1 3 gives 2 of 0;");
        Hand.granted(r, "power(27)", r.power(27), 3);
        r = room("prime 7; size 1;");
        Hand.granted(r, "power(6)", r.power(6), 1);
        r = room(AFFINE);
        Hand.refused(r, "power(1)", r.power(1), 8);
        Hand.refused(r, "power(24)", r.power(24), 8);
        Hand.granted(r, "power(5)", r.power(5), 2);
        // 2 takes 0 to itself and 1 to 0: no power of it is 0, though one line is.
        r = room("prime 3; size 3; bracket 0 2 gives 2 of 0; bracket 1 2 gives 2 of 0;");
        Hand.refused(r, "power(9)", r.power(9), 8);
    }

    private static void derivations() {
        Hand.about("DERIVATIONS, INNER ones, the one less the other; FORM");
        Object[][] due = {
            {"prime 2; size 1;", 1, 0, 0}, {FILIFORM, 9, 4, 0}, {OSCILLATOR, 5, 3, 1}, {CROSS, 3, 3, 3},
            {"prime 3; size 5; bracket 0 1 gives 2 of 2; bracket 0 3 gives 2 of 4; bracket 1 3 gives 1 of 0;", 10, 3, 0},
            {"prime 3; size 4; bracket 0 1 gives 1 of 1; bracket 0 2 gives 1 of 2; bracket 0 3 gives 1 of 3;", 12, 4, 0},
            {"prime 5; size 4; bracket 0 1 gives 1 of 1; bracket 0 2 gives 2 of 2; bracket 0 3 gives 3 of 3;", 6, 4, 1},
            // Without JACOBI there may be fewer DERIVATIONS than INNER ones: 1 less 5 is told all the same.
            {"prime 3; size 5; bracket 0 4 gives 2 of 1; bracket 1 4 gives 2 of 2; bracket 2 4 gives 2 of 3; bracket 3 4 gives 2 of 4;",
                1, 5, 3},
        };
        for (Object[] d : due) {
            BracketRoom r = room((String) d[0]);
            int all = (Integer) d[1];
            int inner = (Integer) d[2];
            Hand.granted(r, "derivations(0) of " + d[0], r.derivations(0), all);
            Hand.granted(r, "derivations(1) of " + d[0], r.derivations(1), inner);
            Hand.granted(r, "derivations(2) of " + d[0], r.derivations(2), all - inner);
            Hand.granted(r, "form() of " + d[0], r.form(), (Integer) d[3]);
        }
    }

    private static void classesOf(String text, int... due) {
        BracketRoom r = room(text);
        for (int k = 0; k < due.length; k++) {
            Hand.granted(r, "classes(" + k + ") of " + text, r.classes(k), due[k]);
        }
        Hand.refused(r, "classes(n and 1)", r.classes(due.length), 5);
        Hand.refused(r, "classes(-1)", r.classes(-1), 5);
    }

    private static void classes() {
        Hand.about("CLASSES of degree k (0 to n)");
        classesOf("prime 2; size 1;", 1, 1);
        classesOf("prime 2; size 5;", 1, 5, 10, 10, 5, 1);
        classesOf(AFFINE, 1, 1, 0);
        classesOf(CROSS, 1, 0, 0, 1);
        classesOf(OSCILLATOR, 1, 1, 0, 1, 1);
        classesOf(FILIFORM, 1, 2, 3, 3, 2, 1);
        classesOf("prime 3; size 4; bracket 0 1 gives 1 of 1; bracket 2 3 gives 1 of 3;", 1, 2, 1, 0, 0);
        classesOf("prime 5; size 4; bracket 0 1 gives 1 of 1; bracket 0 2 gives 2 of 2; bracket 0 3 gives 3 of 3;", 1, 1, 1, 1, 0);
        classesOf("prime 5; size 4; bracket 1 3 gives 4 of 0; bracket 2 3 gives 4 of 1;", 1, 2, 2, 2, 1);
        classesOf("prime 3; size 5; bracket 1 4 gives 2 of 0; bracket 2 4 gives 2 of 1; bracket 3 4 gives 2 of 2;",
                1, 2, 3, 3, 2, 1);
        classesOf("prime 3; size 5; bracket 0 1 gives 2 of 2; bracket 0 3 gives 2 of 4; bracket 1 3 gives 1 of 0;",
                1, 2, 3, 3, 2, 1);
        classesOf("prime 3; size 5; bracket 0 1 gives 1 of 2; bracket 0 2 gives 2 of 1; bracket 1 2 gives 1 of 0; "
                + "bracket 3 4 gives 1 of 4;", 1, 1, 0, 1, 1, 0);
        Hand.about("CLASSES: less if a and b together are odd, the others in their order");
        classesOf("prime 3; size 3; bracket 0 1 gives 1 of 0; bracket 1 2 gives 1 of 2;", 1, 1, 1, 1);
        classesOf("prime 5; size 3; bracket 0 1 gives 1 of 0; bracket 1 2 gives 2 of 2;", 1, 1, 0, 0);
        classesOf("prime 5; size 4; bracket 0 1 gives 2 of 0; bracket 1 2 gives 1 of 2; bracket 1 3 gives 3 of 3;", 1, 1, 0, 0, 0);
        classesOf("prime 5; size 4; bracket 0 2 gives 1 of 0; bracket 1 2 gives 2 of 1; bracket 2 3 gives 3 of 3;", 1, 1, 0, 1, 1);
        classesOf("prime 3; size 5; bracket 0 3 gives 1 of 0; bracket 1 3 gives 1 of 1; bracket 2 3 gives 2 of 2; "
                + "bracket 3 4 gives 1 of 4;", 1, 1, 4, 4, 1, 1);
        classesOf(DENSE_FOUR, 1, 1, 0, 1, 1);
        classesOf(DENSE_FIVE, 1, 1, 0, 1, 1, 0);
    }

    private static void mapsOf(String text, int maps, int tries) {
        BracketRoom r = room(text);
        Hand.granted(r, "maps() of " + text, r.maps(), maps);
        Hand.granted(r, "tries() of " + text, r.tries(), tries);
    }

    private static void sameOf(String text, String shelved, int same, int tries) {
        BracketRoom r = room(shelved);
        r.keep(3);
        Hand.world(r, text);
        Hand.granted(r, "sameAs() of " + text, r.sameAs(3), same);
        Hand.granted(r, "tries() of " + text, r.tries(), tries);
        seen(r, "the WORLD stays", Hand.table(room(text)).trim().replaceFirst("^(\\d \\d \\d+) 0", "$1 8"));
    }

    private static void tries() {
        Hand.about("images of BASE vectors 0, 1 .. by VECTORS 1, 2 ..; TRIES: each VECTOR that is set, gone on from or not");
        mapsOf("prime 2; size 1;", 1, 1);
        mapsOf("prime 3; size 1;", 2, 2);
        mapsOf("prime 5; size 1;", 4, 4);
        mapsOf("prime 7; size 1;", 6, 6);
        mapsOf("prime 2; size 3;", 168, 7 + 7 * 7 + 7 * 6 * 7);
        mapsOf("prime 7; size 2; bracket 0 1 gives 3 of 0 5 of 1;", 42, 2352);
        // A BRACKET that has a BASE vector behind is looked at when that is set.
        mapsOf("prime 2; size 4; bracket 0 1 gives 1 of 3; bracket 0 2 gives 1 of 1;", 32, 4590);
        mapsOf("prime 2; size 4; bracket 0 1 gives 1 of 2; bracket 2 3 gives 1 of 0;", 8, 4110);
        mapsOf("prime 2; size 4; bracket 0 3 gives 1 of 3; bracket 1 2 gives 1 of 0;", 6, 1410);
        mapsOf("prime 3; size 3; bracket 1 2 gives 1 of 0;", 432, 5694);
        mapsOf("prime 2; size 5; bracket 0 1 gives 1 of 2; bracket 0 2 gives 1 of 1; bracket 1 2 gives 1 of 0; "
                + "bracket 3 4 gives 1 of 4;", 12, 30566);
        Hand.about("SAME: there is a MAP; the first one ends it");
        sameOf("prime 2; size 1;", "prime 2; size 1;", 1, 1);
        sameOf("prime 2; size 4; bracket 0 1 gives 1 of 2; bracket 2 3 gives 1 of 0;",
                "prime 2; size 4; bracket 0 2 gives 1 of 3; bracket 1 3 gives 1 of 2;", 1, 810);
        sameOf("prime 2; size 4; bracket 0 3 gives 1 of 3; bracket 1 2 gives 1 of 0;",
                "prime 2; size 4; bracket 0 1 gives 1 of 0; bracket 2 3 gives 1 of 2;", 0, 1050);
        sameOf("prime 3; size 3; bracket 0 1 gives 1 of 1; bracket 0 2 gives 1 of 1 1 of 2;",
                "prime 3; size 3; bracket 0 1 gives 1 of 1; bracket 0 2 gives 1 of 2;", 0, 2574);
        sameOf("prime 3; size 3; bracket 1 2 gives 1 of 0;", "prime 3; size 3; bracket 0 1 gives 2 of 2;", 1, 1472);
        sameOf("prime 2; size 5; bracket 0 1 gives 1 of 4; bracket 2 3 gives 1 of 4;",
                "prime 2; size 5; bracket 0 4 gives 1 of 1; bracket 2 3 gives 1 of 1;", 1, 8928);
        sameOf("prime 7; size 2; bracket 0 1 gives 3 of 0 5 of 1;", "prime 7; size 2; bracket 0 1 gives 1 of 1;", 1, 208);
        sameOf("prime 3; size 5; bracket 0 1 gives 1 of 0;", "prime 3; size 5; bracket 0 1 gives 1 of 0;", 1,
                1 + 3 + 9 + 27 + 81);
    }

    private static void exactlySpent() {
        Hand.about("at most 200,000: SPENT, if one more would be");
        BracketRoom r = room("prime 5; size 4;");
        Hand.refused(r, "maps()", r.maps(), 9);
        Hand.granted(r, "tries()", r.tries(), 200000);
        r.keep(0);
        // The first MAP ends it long ahead.
        Hand.granted(r, "sameAs(0)", r.sameAs(0), 1);
        Hand.granted(r, "tries()", r.tries(), 1 + 5 + 25 + 125);
        Hand.world(r, "prime 5; size 4; bracket 0 1 gives 1 of 3;");
        Hand.refused(r, "sameAs(0)", r.sameAs(0), 9);
        Hand.granted(r, "tries()", r.tries(), 200000);
        Hand.about("tries: with STATUS 0, 9; others leave it");
        Hand.refused(r, "sameAs(1)", r.sameAs(1), 8);
        Hand.refused(r, "sameAs(4)", r.sameAs(4), 2);
        r.tables(2, 2, 1);
        r.parted(0);
        r.barred(0);
        Hand.script(r, "when same 0; end;");
        r.run();
        r.mark();
        r.back();
        Hand.granted(r, "tries()", r.tries(), 200000);
    }

    /**
     * The WORLD that the one on SHELF 0 becomes if VECTORS 2, 254 and last are its BASE. The BRACKET of the first two has
     * some of the third, so nothing but SPANS bars images ahead of that: 2 and 254 are set after 199,984 TRIES.
     */
    private static BracketRoom foundAt(int last) {
        BracketRoom r = room("prime 7; size 3; bracket 0 1 gives 1 of 0; bracket 0 2 gives 1 of 2; bracket 1 2 gives 1 of 1;");
        r.keep(0);
        Hand.fill(r, 0, 0, 2, 0, 0, 2, 1, 5, last % 7, last / 7 % 7, last / 49);
        Hand.granted(r, "change(0)", r.change(0));
        Hand.due("the third is looked at last", r.constant(0, 1, 2) != 0, true);
        return r;
    }

    private static void lastTry() {
        Hand.about("at most 200,000: a MAP that is found by the last of them");
        for (int last = 15; last <= 18; last++) {
            BracketRoom r = foundAt(last);
            int due = 199984 + last;
            Hand.script(r, "when same 0; keep 3; end;");
            if (due <= 200000) {
                Hand.granted(r, "sameAs(0), found at " + due, r.sameAs(0), 1);
                Hand.granted(r, "tries()", r.tries(), due);
            } else {
                Hand.refused(r, "sameAs(0), found at " + due, r.sameAs(0), 9);
                Hand.granted(r, "tries()", r.tries(), 200000);
            }
            Hand.granted(r, "run() of a when same, found at " + due, r.run(), due <= 200000 ? 2 : 1);
            Hand.granted(r, "many(3)", r.many(3), due <= 200000 ? 9 : 1);
            Hand.granted(r, "ran(0)", r.ran(0), 0);
        }
    }

    private static void unlikeWorlds() {
        Hand.about("tries: for sameAs() of unlike PRIME, SIZE: 0");
        String[][] unlike = {{"prime 2; size 2;", "prime 3; size 2;"}, {"prime 2; size 2;", "prime 2; size 3;"},
            {"prime 2; size 3;", "prime 2; size 2;"}, {"prime 7; size 1;", "prime 5; size 1;"}};
        for (String[] u : unlike) {
            BracketRoom r = room(u[1]);
            r.keep(0);
            Hand.world(r, u[0]);
            r.maps();
            Hand.granted(r, "sameAs(0)", r.sameAs(0), 0);
            Hand.granted(r, "tries()", r.tries(), 0);
            Hand.granted(r, "parted(0)", r.parted(0), 0);
            Hand.refused(r, "barred(0)", r.barred(0), 5);
        }
    }

    private static void partedBy(String here, String there, int due) {
        for (int turn = 0; turn < 2; turn++) {
            BracketRoom r = room(turn == 0 ? there : here);
            r.keep(1);
            Hand.world(r, turn == 0 ? here : there);
            if (due < 0) {
                Hand.refused(r, "parted() of " + here + there, r.parted(1), 8);
            } else {
                Hand.granted(r, "parted() of " + here + there, r.parted(1), due);
            }
        }
    }

    private static void parted() {
        Hand.about("PARTED by the first of these numbers that are unlike");
        partedBy("prime 2; size 1;", "prime 2; size 1;", -1);
        partedBy("prime 2; size 1;", "prime 3; size 1;", 0);
        partedBy("prime 3; size 1;", "prime 3; size 2;", 0);
        // DERIVED 2 is 1 and 0; DERIVED 3 is 0 for both.
        partedBy(OSCILLATOR, "prime 3; size 4; bracket 0 1 gives 1 of 1; bracket 0 2 gives 2 of 2; bracket 0 3 gives 1 of 3;", 2);
        // LOWER 2 is 1 and 0; LOWER 3 is 0 for both.
        partedBy("prime 3; size 5; bracket 0 1 gives 1 of 2; bracket 0 2 gives 1 of 3;",
                "prime 3; size 5; bracket 0 1 gives 1 of 3; bracket 0 2 gives 1 of 4;", 3);
        // LOWER 2 and 3 are 1 for both; the CENTRE is 0 and 1.
        partedBy("prime 3; size 3; bracket 0 1 gives 1 of 1; bracket 0 2 gives 1 of 2;",
                "prime 3; size 3; bracket 0 1 gives 1 of 1;", 1);
        partedBy("prime 3; size 4; bracket 0 1 gives 1 of 1; bracket 2 3 gives 1 of 3;",
                "prime 3; size 4; bracket 0 1 gives 1 of 1; bracket 0 2 gives 1 of 2;", 4);
        Hand.about("8: by none");
        partedBy(HEISENBERG, "prime 3; size 3; bracket 1 2 gives 2 of 0;", -1);
        partedBy(BROKEN, BROKEN, -1);
    }

    // ---- other worlds

    private static BracketRoom withNumbers(String text, int tray, long... numbers) {
        BracketRoom r = room(text);
        r.keep(1);
        Hand.fill(r, tray, 3, numbers);
        return r;
    }

    private static void changeEdges() {
        Hand.about("change: 1; 3; 4; 5: a number below 0, not below p; 9; in this order");
        Hand.keptFalse(() -> withNumbers(AFFINE, 0, 5, 5, 5), "change() of three", 4, r -> r.change(0));
        Hand.keptFalse(() -> withNumbers(AFFINE, 0), "change() of none", 4, r -> r.change(0));
        for (long bad : new long[] {-1, 5, Long.MIN_VALUE, Long.MAX_VALUE, 1L << 32}) {
            Hand.keptFalse(() -> withNumbers(AFFINE, 0, 0, 0, 0, bad), "change() of " + bad, 5, r -> r.change(0));
            Hand.keptFalse(() -> withNumbers(AFFINE, 0, bad, 0, 0, 0), "change() of " + bad, 5, r -> r.change(0));
        }
        Hand.keptFalse(() -> withNumbers(AFFINE, 0, 0, 0, 0, 0), "change() of 0", 9, r -> r.change(0));
        Hand.keptFalse(() -> withNumbers(AFFINE, 0, 1, 0, 0, 0), "change() of a line", 9, r -> r.change(0));
        Hand.keptFalse(() -> withNumbers(AFFINE, 0, 3, 1, 4, 3), "change() of a line", 9, r -> r.change(0));
        Hand.keptFalse(() -> withNumbers(HEISENBERG, 0, 1, 0, 0, 0, 1, 0, 1, 1, 0), "change() of a plane", 9, r -> r.change(0));
        BracketRoom r = withNumbers(AFFINE, 3, 4, 4, 0, 4, -1);
        Hand.granted(r, "change() of 4 4, 0 4; more numbers are not looked at", r.change(3));
        seen(r, "change()", "5 2 1 2 [0 1] 4 of 1");
        Hand.about("change: of SIZE 1, of SIZE 5");
        r = withNumbers("prime 7; size 1;", 0, 6);
        Hand.granted(r, "change()", r.change(0));
        seen(r, "change()", "7 1 0 2");
        Hand.keptFalse(() -> withNumbers("prime 7; size 1;", 0, 0), "change() of 0", 9, x -> x.change(0));
        long[] back = new long[25];
        for (int i = 0; i < 5; i++) {
            back[i * 5 + 4 - i] = i == 4 ? 2 : 1;
        }
        r = withNumbers(FILIFORM, 0, back);
        Hand.granted(r, "change() of SIZE 5", r.change(0));
        // New 4 is 2 of 0, new 3 .. 0 are 1 .. 4: [4, 3] is 2 of 2, which is new 2, and so on.
        seen(r, "change()", "3 5 3 2 [1 4] 1 of 0 [2 4] 1 of 1 [3 4] 1 of 2");
        long[] short24 = new long[24];
        Hand.keptFalse(() -> withNumbers(FILIFORM, 0, short24), "change() of 24", 4, x -> x.change(0));
    }

    private static void squeezeEdges() {
        Hand.about("squeeze: weights (less 20 to 20 each); 1; 3; 4; 5: a weight; 9; in this order");
        Hand.keptFalse(() -> withNumbers(HEISENBERG, 0, 21, 0), "squeeze() of two", 4, r -> r.squeeze(0));
        for (long bad : new long[] {-21, 21, Long.MIN_VALUE, Long.MAX_VALUE, 1L << 32}) {
            Hand.keptFalse(() -> withNumbers(HEISENBERG, 0, bad, 0, 20), "squeeze() of " + bad, 5, r -> r.squeeze(0));
            Hand.keptFalse(() -> withNumbers(HEISENBERG, 0, 0, 0, bad), "squeeze() of " + bad, 5, r -> r.squeeze(0));
        }
        int[][] weights = {{0, 0, 0}, {1, 1, 2}, {20, -20, 0}, {10, 10, 20}, {-10, -10, -20}, {1, 1, 1}, {20, 20, -20}, {0, 1, 0},
            {0, 0, 1}, {-20, -20, 20}, {1, 1, 3}, {-10, -10, -19}};
        for (int[] w : weights) {
            int above = w[0] + w[1] - w[2];
            String call = "squeeze() of " + w[0] + " " + w[1] + " " + w[2];
            if (above < 0) {
                Hand.keptFalse(() -> withNumbers(HEISENBERG, 0, w[0], w[1], w[2]), call, 9, r -> r.squeeze(0));
            } else {
                BracketRoom r = withNumbers(HEISENBERG, 0, w[0], w[1], w[2]);
                Hand.granted(r, call, r.squeeze(0));
                seen(r, call, above == 0 ? "3 3 1 2 [0 1] 1 of 2" : "3 3 0 2");
            }
        }
        Hand.about("of each number that is not 0: one that can't be leaves all as it was");
        Hand.keptFalse(() -> withNumbers(CROSS, 0, 5, 0, 0), "squeeze() of 5 0 0", 9, r -> r.squeeze(0));
        Hand.keptFalse(() -> withNumbers(CROSS, 0, 0, 0, 5), "squeeze() of 0 0 5", 9, r -> r.squeeze(0));
        Hand.about("what is 0 bars nothing");
        BracketRoom r = withNumbers("prime 3; size 3;", 0, -20, -20, 20, 99);
        Hand.granted(r, "squeeze()", r.squeeze(0));
        r = withNumbers("prime 2; size 1;", 0, -20);
        Hand.granted(r, "squeeze() of SIZE 1", r.squeeze(0));
        r = withNumbers(CROSS, 2, 1, 1, 2);
        Hand.granted(r, "squeeze() of 1 1 2", r.squeeze(2));
        seen(r, "squeeze()", "3 3 1 2 [0 1] 1 of 2");
        // [0, 1] has 0 and 2: the one goes, the other stays.
        r = withNumbers("prime 3; size 3; bracket 0 1 gives 1 of 0 2 of 2;", 2, 1, 1, 2);
        Hand.granted(r, "squeeze() of 1 1 2", r.squeeze(2));
        seen(r, "squeeze()", "3 3 1 2 [0 1] 2 of 2");
    }

    private static void barred(String here, String there, int due) {
        BracketRoom r = room(there);
        r.keep(2);
        Hand.world(r, here);
        Hand.granted(r, "barred() of " + here + " from " + there, r.barred(2), due);
    }

    private static void barredOrder() {
        Hand.about("BARRED: 1, if that has fewer DERIVATIONS; else 2, if its DERIVED 1 is greater; else 3, if its CENTRE is less");
        String flat = "prime 3; size 3;";
        String alike = "prime 3; size 3; bracket 0 1 gives 1 of 1; bracket 0 2 gives 1 of 2;";
        barred(flat, flat, 0);
        barred(HEISENBERG, flat, 0);
        // 9 and 6 DERIVATIONS; DERIVED 1 is greater, the CENTRE less, too.
        barred(flat, HEISENBERG, 1);
        // 6 and 6; 1 and 2; the CENTRE is 1 and 0.
        barred(HEISENBERG, alike, 2);
        barred(alike, HEISENBERG, 0);
        barred(CROSS, HEISENBERG, 0);
        barred(HEISENBERG, CROSS, 1);
        barred(CROSS, CROSS, 0);
        Hand.about("barred: 5: it is of another PRIME, SIZE");
        BracketRoom r = room(HEISENBERG);
        r.keep(0);
        for (String other : new String[] {"prime 3; size 2;", "prime 3; size 4;", "prime 2; size 3;", "prime 5; size 3;"}) {
            Hand.world(r, other);
            Hand.refused(r, "barred()", r.barred(0), 5);
        }
    }

    private static int limit(int p) {
        for (int[] g : GREATEST) {
            if (g[0] == p) {
                return g[1];
            }
        }
        return 0;
    }

    private static void cocycle(String text, int due, long... numbers) {
        BracketRoom r = withNumbers(text, 0, numbers);
        int n = r.many(1);
        Hand.granted(r, "cocycle() of " + text, r.cocycle(0), due);
        if (n == limit(r.many(0))) {
            Hand.refused(r, "grow() of " + text, r.grow(0), 7);
        } else if (due == 0) {
            Hand.kept(() -> withNumbers(text, 0, numbers), "grow() of " + text, 9, x -> x.grow(0));
        } else {
            Hand.granted(r, "grow() of " + text, r.grow(0), n + 1);
            int at = 0;
            for (int i = 0; i < n; i++) {
                for (int j = i + 1; j < n; j++) {
                    Hand.due("constant(i, j, n)", r.constant(i, j, n), numbers[at]);
                    at++;
                }
                Hand.due("centralizer(n): it is in the CENTRE", r.constant(i, n, 0), 0);
            }
        }
    }

    private static void cocycles() {
        Hand.about("COCYCLE: numbers for all couples (0 1, 0 2, .., 1 2 ..), as a 2-FORM closed");
        for (int at = 0; at < 6; at++) {
            long[] one = new long[6];
            one[at] = 1;
            cocycle(OSCILLATOR, at == 0 || at == 1 || at == 3 ? 1 : 0, one);
            one[at] = 4;
            cocycle("prime 5; size 4; bracket 1 3 gives 4 of 0; bracket 2 3 gives 4 of 1;", at >= 2 ? 1 : 0, one);
        }
        // 1 takes 0 to less itself and 2 to itself, or to 2 of it.
        cocycle("prime 3; size 3; bracket 0 1 gives 1 of 0; bracket 1 2 gives 1 of 2;", 1, 0, 1, 0);
        cocycle("prime 5; size 3; bracket 0 1 gives 1 of 0; bracket 1 2 gives 2 of 2;", 0, 0, 1, 0);
        cocycle("prime 5; size 3; bracket 0 1 gives 1 of 0; bracket 1 2 gives 2 of 2;", 1, 3, 0, 2);
        cocycle(OSCILLATOR, 1, 1, 2, 0, 2, 0, 0);
        cocycle(OSCILLATOR, 0, 2, 1, 2, 1, 2, 2);
        BracketRoom r = withNumbers(FILIFORM, 0, 1, 2, 0, 2, 0, 0, 2, 1, 0, 0);
        Hand.granted(r, "cocycle(): that of 1 4 is the contrary of that of 2 3", r.cocycle(0), 1);
        r = withNumbers(FILIFORM, 0, 1, 2, 0, 2, 0, 0, 1, 1, 0, 0);
        Hand.granted(r, "cocycle(): it is not", r.cocycle(0), 0);
        r = withNumbers(FILIFORM, 0, 0, 0, 0, 0, 0, 0, 0, 0, 0, 1);
        Hand.granted(r, "cocycle(): 3 4 alone", r.cocycle(0), 0);
        Hand.about("cocycle: 1; 3; 4; 5: a number; in this order; of a WORLD that is not LAWFUL, too");
        Hand.kept(() -> withNumbers(HEISENBERG, 0, 3, 3), "cocycle() of two", 4, x -> x.cocycle(0));
        Hand.kept(() -> withNumbers(HEISENBERG, 0, 3, 3), "grow() of two", 4, x -> x.grow(0));
        for (long bad : new long[] {-1, 3, Long.MIN_VALUE, Long.MAX_VALUE, 1L << 32}) {
            Hand.kept(() -> withNumbers(HEISENBERG, 0, 0, 0, bad), "cocycle()", 5, x -> x.cocycle(0));
            Hand.kept(() -> withNumbers(OSCILLATOR, 0, bad, 0, 1, 0, 0, 0), "grow(): 5 goes ahead of 9", 5, x -> x.grow(0));
        }
        cocycle(HEISENBERG, 1, 2, 1, 2, 77);
        cocycle(BROKEN, 1, 0, 1, 0);
        cocycle(BROKEN, 1, 0, 0, 1);
        cocycle(BROKEN, 0, 1, 0, 0);
        cocycle("prime 2; size 1;", 1);
        cocycle("prime 7; size 2; bracket 0 1 gives 1 of 1;", 1, 6);
    }

    private static void growths() {
        Hand.about("grow: 7: too great, asked first of all");
        for (int[] g : GREATEST) {
            Supplier<BracketRoom> maker = () -> room(empty(g[0], g[1]));
            for (int tray : new int[] {-1, 4, 0, LOW, HIGH}) {
                Hand.kept(maker, "grow(" + tray + ")", 7, r -> r.grow(tray));
            }
            BracketRoom r = room(empty(g[0], g[1] - 1));
            Hand.refused(r, "grow(-1) where there is room", r.grow(-1), 1);
            Hand.refused(r, "grow(0) where there is room", r.grow(0), 3);
            r.tray(0, 0, 10);
            Hand.granted(r, "grow(0)", r.grow(0), g[1]);
            Hand.refused(r, "grow(0) again", r.grow(0), 7);
            Hand.granted(r, "cocycle(0) where there is no room", r.cocycle(0), 1);
        }
        Hand.about("GROWN: the BRACKET of i and j has so much of it, too");
        BracketRoom r = withNumbers(HEISENBERG, 0, 2, 1, 0);
        Hand.granted(r, "grow(0)", r.grow(0), 4);
        seen(r, "grow()", "3 4 3 2 [0 1] 1 of 2 [0 1] 2 of 3 [0 2] 1 of 3");
    }

    private static void sum(int p, int here, int there, int status) {
        Supplier<BracketRoom> maker = () -> {
            BracketRoom r = room(empty(p, there));
            if (there > 1) {
                r.put(0, 1, there - 1, p - 1);
            }
            r.keep(0);
            Hand.world(r, empty(p, here));
            if (here > 1) {
                r.put(0, here - 1, 0, 1);
            }
            return r;
        };
        if (status != 0) {
            Hand.kept(maker, "sum() of " + here + " and " + there + " by " + p, status, r -> r.sum(0));
            return;
        }
        BracketRoom r = maker.get();
        Hand.granted(r, "sum()", r.sum(0), here + there);
        Hand.due("many(2)", r.many(2), (here > 1 ? 1 : 0) + (there > 1 ? 1 : 0));
        if (here > 1) {
            Hand.due("constant() of the first", r.constant(0, here - 1, 0), 1);
        }
        if (there > 1) {
            Hand.due("constant() of that behind", r.constant(here, here + 1, here + there - 1), p - 1);
        }
    }

    private static void sums() {
        Hand.about("sum: the SIZE (2; 8; 5: of another PRIME; 7: too great)");
        for (int[] g : GREATEST) {
            for (int here = 1; here <= g[1]; here++) {
                for (int there = 1; there <= g[1]; there++) {
                    sum(g[0], here, there, here + there <= g[1] ? 0 : 7);
                }
            }
        }
        BracketRoom r = room("prime 7; size 3;");
        r.keep(0);
        Hand.world(r, "prime 2; size 5;");
        Hand.refused(r, "sum(): 5 goes ahead of 7", r.sum(0), 5);
        Hand.world(r, "prime 5; size 1;");
        Hand.refused(r, "sum() of another PRIME", r.sum(0), 5);
    }

    private static void rest(String text, int many, String due, long... vectors) {
        BracketRoom r = withVectors(text, vectors);
        Hand.granted(r, "rest() of " + text, r.rest(2, many), due.charAt(2) - '0');
        seen(r, "rest() of " + text, due);
    }

    private static void rests() {
        Hand.about("REST by the IDEAL that some VECTORS make (1 to 20): nothing is left: 9");
        rest(HEISENBERG, 1, "3 3 1 0 [0 1] 1 of 2", 0);
        rest(FILIFORM, 1, "3 5 3 0 [0 1] 1 of 2 [0 2] 1 of 3 [0 3] 1 of 4", 0);
        rest(HEISENBERG, 1, "3 2 0 0", 9);
        rest(HEISENBERG, 1, "3 1 0 0", 1);
        rest(HEISENBERG, 20, "3 2 0 0", 0, 9, 18, 0, 0, 0, 0, 0, 0, 0, 0, 0, 0, 0, 0, 0, 0, 0, 0, 9);
        rest(FILIFORM, 1, "3 4 2 0 [0 1] 1 of 2 [0 2] 1 of 3", 81);
        rest(FILIFORM, 1, "3 3 1 0 [0 1] 1 of 2", 27);
        rest(OSCILLATOR, 1, "3 3 2 0 [0 1] 1 of 1 [0 2] 2 of 2", 27);
        Hand.kept(() -> withVectors(CROSS, 1), "rest() of a SIMPLE one", 9, r -> r.rest(2, 1));
        Hand.kept(() -> withVectors("prime 2; size 1;", 1), "rest() of SIZE 1", 9, r -> r.rest(2, 1));
        Hand.kept(() -> withVectors(HEISENBERG, 1, 3), "rest() of all", 9, r -> r.rest(2, 2));
        // 0 and 3 of 1 lead at 0: 1, 2, 3 are left as 0, 1, 2, and 0 is less 3 of 1 there: 3 of it are 1.
        rest("prime 5; size 4; bracket 2 3 gives 3 of 0;", 1, "5 3 1 0 [1 2] 1 of 0", 1 + 3 * 5);
        rest("prime 5; size 4; bracket 2 3 gives 3 of 0;", 1, "5 3 1 0 [1 2] 1 of 0", 4 + 2 * 5);
    }

    private static void taken(String text, int many, String due, long... vectors) {
        BracketRoom r = withVectors(text, vectors);
        Hand.granted(r, "takeOut() of " + text, r.takeOut(2, many), due.charAt(2) - '0');
        seen(r, "takeOut() of " + text, due);
    }

    private static void takings() {
        Hand.about("TAKEN OUT is the PART that some VECTORS make: BASE vectors are its ECHELON's rows; they are 0: 9");
        taken(HEISENBERG, 1, "3 1 0 0", 26);
        taken(HEISENBERG, 2, "3 3 1 0 [0 1] 1 of 2", 1, 3);
        taken(HEISENBERG, 20, "3 2 0 0", 0, 0, 0, 0, 0, 0, 0, 0, 0, 0, 0, 0, 0, 0, 0, 0, 0, 0, 9, 3);
        taken(FILIFORM, 2, "3 3 1 0 [0 1] 1 of 2", 1, 27);
        taken(FILIFORM, 2, "3 4 2 0 [0 1] 1 of 2 [0 2] 1 of 3", 1, 9);
        taken(FILIFORM, 2, "3 5 3 0 [0 1] 1 of 2 [0 2] 1 of 3 [0 3] 1 of 4", 3, 1);
        // No other row has something where one leads: the rows are 0, 1, 2.
        taken(CROSS, 3, "3 3 3 0 [0 1] 1 of 2 [0 2] 2 of 1 [1 2] 1 of 0", 4, 3, 9);
        taken(CROSS, 3, "3 3 3 0 [0 1] 1 of 2 [0 2] 2 of 1 [1 2] 1 of 0", 1 + 2 * 3 + 9, 3 + 2 * 9, 2 * 9);
        taken(OSCILLATOR, 2, "3 3 1 0 [0 1] 1 of 2", 3, 9);
        // Rows 0 and 1 of 2, 1 of 1: the BRACKET of 2 times the first with the second.
        taken("prime 5; size 3; bracket 0 1 gives 2 of 1; bracket 1 2 gives 1 of 1;", 2, "5 2 1 0 [0 1] 1 of 1", 2 + 2 * 25, 5);
        taken("prime 2; size 1;", 1, "2 1 0 0", 1);
        Hand.kept(() -> withVectors(HEISENBERG, 0), "takeOut() of 0", 9, r -> r.takeOut(2, 1));
        Hand.kept(() -> withVectors("prime 2; size 1;", 0), "takeOut() of 0", 9, r -> r.takeOut(2, 1));
    }

    private static void allTables() {
        Hand.about("ALL TABLES of a PRIME (2, 3) and SIZE (1, 2; 3 with 2)");
        Supplier<BracketRoom> maker = () -> room(HEISENBERG);
        int[] sizes = {LOW, -1, 0, 1, 2, 3, 4, 5, HIGH};
        int[] primes = {LOW, -2, 0, 1, 2, 3, 4, 5, 7, HIGH};
        for (int p : primes) {
            for (int n : sizes) {
                boolean known = n >= 1 && n <= 2 && (p == 2 || p == 3) || n == 3 && p == 2;
                for (int what : new int[] {LOW, -1, 0, 1, 2, HIGH}) {
                    if (!known || what < 0 || what > 1) {
                        Hand.kept(maker, "tables(" + p + ", " + n + ", " + what + ")", 5, r -> r.tables(p, n, what));
                    }
                }
            }
        }
        BracketRoom r = maker.get();
        int[][] due = {{2, 1, 1, 1}, {2, 2, 4, 2}, {2, 3, 120, 7}, {3, 1, 1, 1}, {3, 2, 9, 2}};
        for (int[] d : due) {
            Hand.granted(r, "tables(0)", r.tables(d[0], d[1], 0), d[2]);
            Hand.granted(r, "tables(1)", r.tables(d[0], d[1], 1), d[3]);
        }
        seen(r, "the WORLD stays", "3 3 1 0 [0 1] 1 of 2");
    }

    // ---- what is behind does not matter

    /** What a WORLD of few VECTORS answers. */
    private static String profile(BracketRoom r) {
        StringBuilder s = new StringBuilder();
        int n = r.many(1);
        int last = (int) Math.pow(r.many(0), n) - 1;
        for (int what = 0; what < 6; what++) {
            s.append(r.is(what)).append(' ').append(r.derived(what)).append(' ').append(r.lower(what)).append(' ');
            s.append(r.derivations(what)).append(' ').append(r.radical(what)).append(' ').append(r.classes(what)).append(' ');
            s.append(r.failing(what)).append('\n');
        }
        for (int what = 0; what < 4; what++) {
            for (int size = 0; size <= n; size++) {
                s.append(r.parts(size, what)).append(' ');
            }
        }
        s.append(r.radical(1)).append(' ').append(r.centre()).append(' ').append(r.centralizer(last)).append(' ');
        s.append(r.rank(last / 2)).append(' ').append(r.power(last)).append(' ').append(r.power(1)).append(' ');
        s.append(r.form()).append(' ').append(r.commuting()).append(' ').append(r.share()).append(' ').append(r.top());
        s.append('\n').append(last < 81 ? r.maps() : 0).append(' ').append(r.lawful()).append(' ').append(r.bracket(1, last));
        Hand.fill(r, 3, 1, 1, last, last / 2, 0, 1);
        s.append(' ').append(r.span(3, 3, 0)).append(' ').append(r.span(3, 3, 1)).append(' ').append(r.span(3, 1, 2));
        r.tray(2, 0, 25);
        s.append(' ').append(r.cocycle(2)).append(' ').append(r.grow(2)).append(' ').append(r.rest(3, 1)).append(' ');
        return s.append(r.takeOut(3, 1)).append(' ').append(Hand.table(r)).toString();
    }

    private static void leftovers() {
        Hand.about("a WORLD answers as it does in a new object, whatever has been there ahead");
        String[] texts = {
            DENSE_FIVE, AFFINE, DENSE_FOUR, CROSS, "prime 2; size 1;", OSCILLATOR, BROKEN, FILIFORM,
            "prime 7; size 2; bracket 0 1 gives 6 of 0 3 of 1;", HEISENBERG, "prime 5; size 2; bracket 0 1 gives 1 of 0 1 of 1;",
        };
        for (int ahead = 0; ahead < texts.length; ahead++) {
            for (int t = 0; t < texts.length; t++) {
                BracketRoom r = room(texts[ahead]);
                profile(r);
                Hand.world(r, texts[t]);
                String got = profile(r).replaceFirst("\\s+$", "");
                String due = profile(room(texts[t])).replaceFirst("\\s+$", "");
                Hand.due("the answers of " + texts[t] + " behind " + texts[ahead], got.equals(due), true);
            }
        }
        Hand.about("what stopped midway does not matter");
        BracketRoom r = room("prime 5; size 2; bracket 0 1 gives 1 of 0 1 of 1;");
        Hand.granted(r, "radical(1)", r.radical(1), 1);
        Hand.granted(r, "parts(1, 0)", r.parts(1, 0), 6);
        Hand.granted(r, "radical(1)", r.radical(1), 1);
        Hand.granted(r, "commuting()", r.commuting(), 25 + 24 * 5);
        r = withVectors("prime 3; size 4; bracket 2 3 gives 1 of 3;", 9, 27, 1);
        Hand.granted(r, "span(), the PART", r.span(2, 2, 1), 2);
        r.pour(2, 2, 2, 0, 1);
        Hand.granted(r, "span(), the IDEAL of another one", r.span(2, 1, 2), 1);
    }

    // ---- MARKS

    private static void marks() {
        Hand.about("MARKS, at most 3: the WORLD, SHELVES, the SCRIPT are kept as they are");
        BracketRoom r = new BracketRoom();
        Hand.refused(r, "back()", r.back(), 8);
        for (int m = 1; m <= 3; m++) {
            Hand.world(r, empty(3, m));
            r.keep(m - 1);
            Hand.script(r, "stop;".repeat(m));
            Hand.granted(r, "mark()", r.mark(), m);
        }
        Hand.refused(r, "mark()", r.mark(), 7);
        Hand.refused(r, "mark()", r.mark(), 7);
        Hand.world(r, "prime 7; size 3; bracket 1 2 gives 5 of 0;");
        r.keep(3);
        r.keep(0);
        Hand.script(r, "");
        for (int m = 3; m >= 1; m--) {
            Hand.granted(r, "back()", r.back(), m - 1);
            seen(r, "back()", "3 " + m + " 0 " + ((1 << m) - 1));
            Hand.granted(r, "take(0)", r.take(0));
            Hand.granted(r, "many(1) of SHELF 0", r.many(1), 1);
            Hand.script(r, "loop 3; keep 2; end;");
        }
        Hand.refused(r, "back()", r.back(), 8);
        Hand.granted(r, "mark(): there is room again", r.mark(), 1);
        Hand.about("back: a SHELF that held nothing holds nothing again");
        BracketRoom s = room(AFFINE);
        s.mark();
        for (int shelf = 0; shelf < 4; shelf++) {
            s.keep(shelf);
        }
        Hand.script(s, "stop;");
        s.back();
        Hand.granted(s, "many(3)", s.many(3), 0);
        for (int shelf = 0; shelf < 4; shelf++) {
            Hand.refused(s, "take()", s.take(shelf), 8);
        }
        Hand.refused(s, "run(): no SCRIPT again", s.run(), 8);
        Hand.about("back: each SHELF is taken back");
        BracketRoom t = new BracketRoom();
        for (int shelf = 0; shelf < 4; shelf++) {
            Hand.world(t, empty(2, shelf + 1));
            t.keep(shelf);
        }
        t.mark();
        Hand.world(t, AFFINE);
        for (int shelf = 0; shelf < 4; shelf++) {
            t.keep(shelf);
        }
        t.back();
        for (int shelf = 0; shelf < 4; shelf++) {
            t.take(shelf);
            seen(t, "shelf " + shelf, "2 " + (shelf + 1) + " 0 15");
        }
        Hand.about("a MARK is not changed by what comes behind it, and is gone then");
        BracketRoom u = room(HEISENBERG);
        u.mark();
        u.put(0, 1, 2, 2);
        u.mark();
        u.put(0, 1, 2, 0);
        Hand.granted(u, "back()", u.back(), 1);
        Hand.due("constant(0, 1, 2)", u.constant(0, 1, 2), 2);
        u.put(0, 1, 2, 0);
        Hand.granted(u, "mark()", u.mark(), 2);
        Hand.granted(u, "back()", u.back(), 1);
        Hand.due("constant(0, 1, 2)", u.constant(0, 1, 2), 0);
        Hand.granted(u, "back()", u.back(), 0);
        Hand.due("constant(0, 1, 2)", u.constant(0, 1, 2), 1);
    }

    // ---- a call with another STATUS than 0

    /** A room in which all that can be seen is something else than in a new one. */
    private static BracketRoom busy() {
        BracketRoom r = room(HEISENBERG);
        r.keep(2);
        r.sameAs(2);
        r.share();
        Hand.fill(r, 0, 3, 1, -2, 3);
        Hand.script(r, "swap 0 0; keep 3; stop;");
        r.run();
        r.mark();
        Hand.world(r, BROKEN);
        r.keep(0);
        r.mark();
        Hand.script(r, "go;");
        Hand.feed(r, "stop;");
        return r;
    }

    private static void refusals() {
        Hand.about("a call with another STATUS than 0 gives NONE, or false, and changes nothing but STATUS");
        Supplier<BracketRoom> maker = EdgesTest::busy;
        for (int far : FAR) {
            Hand.keptFalse(maker, "tray(0, 3, 61)", 5, r -> r.tray(0, 3, 61));
            Hand.keptFalse(maker, "write()", 4, r -> r.write(0, far, 9));
            Hand.kept(maker, "read()", 4, r -> r.read(0, far));
            Hand.kept(maker, "world()", 5, r -> r.world(far));
            Hand.kept(maker, "script()", 5, r -> r.script(far));
            Hand.kept(maker, "many()", 5, r -> r.many(far));
            Hand.kept(maker, "constant()", 2, r -> r.constant(far, 0, 0));
            Hand.keptFalse(maker, "put()", 2, r -> r.put(0, far, 0, 1));
            Hand.keptFalse(maker, "put()", 5, r -> r.put(0, 1, 0, far));
            Hand.kept(maker, "bracket()", 2, r -> r.bracket(1, far));
            Hand.kept(maker, "failing()", 5, r -> r.failing(far));
            Hand.keptFalse(maker, "keep()", 2, r -> r.keep(far));
            Hand.keptFalse(maker, "take()", 2, r -> r.take(far));
            Hand.kept(maker, "span()", 5, r -> r.span(0, far, 0));
            Hand.kept(maker, "derived()", 5, r -> r.derived(far));
            Hand.kept(maker, "lower()", 5, r -> r.lower(far));
            Hand.kept(maker, "centralizer()", 2, r -> r.centralizer(far));
            Hand.kept(maker, "is()", 5, r -> r.is(far));
            Hand.kept(maker, "radical()", 5, r -> r.radical(far));
            Hand.kept(maker, "parts()", 5, r -> r.parts(far, 0));
            Hand.kept(maker, "rank()", 2, r -> r.rank(far));
            Hand.kept(maker, "power()", 2, r -> r.power(far));
            Hand.kept(maker, "derivations()", 5, r -> r.derivations(far));
            Hand.kept(maker, "classes()", 5, r -> r.classes(far));
            Hand.kept(maker, "sameAs()", 2, r -> r.sameAs(far));
            Hand.kept(maker, "parted()", 2, r -> r.parted(far));
            Hand.kept(maker, "barred()", 2, r -> r.barred(far));
            Hand.kept(maker, "sum()", 2, r -> r.sum(far));
            Hand.kept(maker, "rest()", 5, r -> r.rest(0, far));
            Hand.kept(maker, "takeOut()", 5, r -> r.takeOut(0, far));
            Hand.kept(maker, "tables()", 5, r -> r.tables(far, 1, 0));
            Hand.kept(maker, "ran()", 5, r -> r.ran(far));
        }
        Hand.kept(maker, "classes(1)", 9, r -> r.classes(1));
        Hand.kept(maker, "sameAs(1)", 8, r -> r.sameAs(1));
        Hand.kept(maker, "parted(0)", 8, r -> r.parted(0));
        Hand.kept(maker, "sum(2)", 7, r -> r.sum(2));
        Hand.kept(maker, "span(0, 3, 1)", 5, r -> r.span(0, 3, 1));
        Hand.kept(maker, "rest(0, 3)", 5, r -> r.rest(0, 3));
        Hand.kept(maker, "takeOut(0, 4)", 4, r -> r.takeOut(0, 4));
        Hand.kept(maker, "cocycle(0)", 5, r -> r.cocycle(0));
        Hand.kept(maker, "grow(0)", 5, r -> r.grow(0));
        Hand.keptFalse(maker, "change(0)", 4, r -> r.change(0));
        Hand.keptFalse(maker, "squeeze(0)", 9, r -> r.squeeze(0));
        Hand.about("but world(), script() with 10 the tape, and what fault() tells");
        BracketRoom r = busy();
        Hand.refused(r, "world(5)", r.world(5), 10);
        Hand.due("feed(): the tape is empty", r.feed(0, 0, 0, 0, 0), 20);
        Hand.due("fault(1)", r.fault(1), 0);
        BracketRoom s = busy();
        Hand.refused(s, "script(4)", s.script(4), 10);
        Hand.due("fault(1)", s.fault(1), 4);
        Hand.due("feed(): the tape is empty", s.feed(0, 0, 0, 0, 0), 20);
        Hand.granted(s, "run(): the SCRIPT stays", s.run(), 3);
    }
}
