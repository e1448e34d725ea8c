import java.util.Arrays;

/** Worlds of few dimensions over a small field, with a bracket. The document is ../shared/DOC.md. */
public final class BracketRoom {
    public static final int NONE = -1;

    // The greatest SIZE; every row of parts has this stride, whatever the WORLD's SIZE is.
    private static final int WIDE = 5;
    private static final int SQUARE = 25;
    private static final int CUBE = 125;
    // Above the number of SPANS of one SIZE in any WORLD (at most 1210).
    private static final int SPANS_AT_MOST = 4000;
    private static final int FAR_ABOVE = 1000000;

    private static final int TRAYS = 4;
    private static final int TRAY_ROOM = 60;
    private static final int SHELVES = 4;
    private static final int MARKS = 3;
    private static final int TAPE_ROOM = 600;
    private static final int SCRIPT_ROOM = 300;
    private static final int GIVEN_AT_MOST = 20;
    private static final int SERIES_AT_MOST = 9;
    private static final int WEIGHT_AT_MOST = 20;
    private static final int TRIES_AT_MOST = 200000;
    private static final int STEPS_AT_MOST = 300;

    private static final int FINE = 0;
    private static final int NO_TRAY = 1;
    private static final int NO_SUCH = 2;
    private static final int TRAY_MISSING = 3;
    private static final int NO_PLACE = 4;
    private static final int NO_NUMBER = 5;
    private static final int BELOW_ZERO = 6;
    private static final int TOO_MUCH = 7;
    private static final int NOTHING = 8;
    private static final int CANNOT = 9;
    private static final int FAULTY = 10;
    private static final int UNLIKE_SORTS = 11;

    private static final int[] UNITS = {
        1, 0, 0, 0, 0,
        0, 1, 0, 0, 0,
        0, 0, 1, 0, 0,
        0, 0, 0, 1, 0,
        0, 0, 0, 0, 1,
    };

    private int status;
    private long top;
    private long bottom = 1;
    private int latestTries = NONE;
    private int marks;
    private final long[] cells = new long[TRAYS * TRAY_ROOM];
    private final int[] sorts = new int[TRAYS];
    private final int[] lengths = new int[TRAYS];
    private final int[] numbers = new int[SQUARE];
    private final int[] parts = new int[WIDE];
    private final Desk desk = new Desk();
    private final Desk[] saved = new Desk[MARKS];
    private final Tokens tokens = new Tokens();
    private final Desk spare = new Desk();
    private final Echelon given = new Echelon(WIDE);
    private final Anatomy anatomy = new Anatomy();
    private final Measures measures = new Measures();
    private final MapSearch search = new MapSearch();
    private final Workshop workshop = new Workshop();
    private final Runner runner = new Runner();

    public BracketRoom() {
        Arrays.fill(lengths, NONE);
        for (int i = 0; i < MARKS; i++) {
            saved[i] = new Desk();
        }
    }

    public int status() {
        return status;
    }

    public long top() {
        return top;
    }

    public long bottom() {
        return bottom;
    }

    // ---- TRAYS

    public boolean tray(int tray, int sort, int many) {
        if (!isTray(tray) || sort < 0 || sort > 3) {
            return refuse(NO_TRAY);
        }
        if (many > TRAY_ROOM) {
            return refuse(NO_NUMBER);
        }
        if (many < 0) {
            return refuse(BELOW_ZERO);
        }
        sorts[tray] = sort;
        lengths[tray] = many;
        Arrays.fill(cells, tray * TRAY_ROOM, tray * TRAY_ROOM + many, 0L);
        return agree();
    }

    public boolean write(int tray, int place, long v) {
        int trouble = placeTrouble(tray, place);
        if (trouble != FINE) {
            return refuse(trouble);
        }
        cells[tray * TRAY_ROOM + place] = cut(sorts[tray], v);
        return agree();
    }

    public long read(int tray, int place) {
        int trouble = placeTrouble(tray, place);
        if (trouble != FINE) {
            return fail(trouble);
        }
        status = FINE;
        return cells[tray * TRAY_ROOM + place];
    }

    public boolean pour(int tray, int i, int to, int j, int many) {
        if (!isTray(tray) || !isTray(to)) {
            return refuse(NO_TRAY);
        }
        if (lengths[tray] < 0 || lengths[to] < 0) {
            return refuse(TRAY_MISSING);
        }
        if (sorts[tray] != sorts[to]) {
            return refuse(UNLIKE_SORTS);
        }
        if (many < 0) {
            return refuse(BELOW_ZERO);
        }
        if (!reaches(tray, i, many) || !reaches(to, j, many)) {
            return refuse(NO_PLACE);
        }
        System.arraycopy(cells, tray * TRAY_ROOM + i, cells, to * TRAY_ROOM + j, many);
        return agree();
    }

    // ---- texts

    public int feed(int a, int b, int c, int d, int e) {
        if (tokens.onTape > TAPE_ROOM - 20) {
            return NONE;
        }
        tokens.append(a);
        tokens.append(b);
        tokens.append(c);
        tokens.append(d);
        tokens.append(e);
        return tokens.onTape;
    }

    public int world(int n) {
        if (n < 0 || n > tokens.onTape) {
            return fail(NO_NUMBER);
        }
        tokens.begin(n);
        boolean good = spare.world.readFrom(tokens);
        tokens.onTape = 0;
        if (!good) {
            return fail(FAULTY);
        }
        desk.world.copyFrom(spare.world);
        return answer(desk.world.size);
    }

    public int script(int n) {
        if (n < 0 || n > tokens.onTape || n > SCRIPT_ROOM) {
            return fail(NO_NUMBER);
        }
        tokens.begin(n);
        boolean good = spare.script.readFrom(tokens);
        tokens.onTape = 0;
        if (!good) {
            return fail(FAULTY);
        }
        desk.script.copyFrom(spare.script);
        return answer(desk.script.steps);
    }

    public int fault(int what) {
        if (what == 0) {
            return tokens.faultKind;
        }
        return what == 1 ? tokens.faultPlace : NONE;
    }

    public int many(int what) {
        switch (what) {
            case 0: return answer(desk.world.prime);
            case 1: return answer(desk.world.size);
            case 2: return answer(desk.world.countCells());
            case 3: return answer(desk.heldSet());
            default: return fail(NO_NUMBER);
        }
    }

    // ---- the TABLE

    public int constant(int i, int j, int k) {
        if (!isBase(i) || !isBase(j) || !isBase(k)) {
            return fail(NO_SUCH);
        }
        return answer(desk.world.cell(i, j, k));
    }

    public boolean put(int i, int j, int k, int v) {
        if (!isBase(i) || !isBase(j) || !isBase(k)) {
            return refuse(NO_SUCH);
        }
        if (i >= j || v < 0 || v >= desk.world.prime) {
            return refuse(NO_NUMBER);
        }
        desk.world.setCell(i, j, k, v);
        return agree();
    }

    public int bracket(int x, int y) {
        World w = desk.world;
        if (!isVector(x) || !isVector(y)) {
            return fail(NO_SUCH);
        }
        w.unpack(x, numbers, 0);
        w.unpack(y, numbers, WIDE);
        w.bracketInto(numbers, 0, numbers, WIDE, parts);
        return answer(w.pack(parts));
    }

    public int lawful() {
        return answer(desk.world.firstBreak() < 0 ? 1 : 0);
    }

    public int failing(int what) {
        if (what < 0 || what > 2) {
            return fail(NO_NUMBER);
        }
        int three = desk.world.firstBreak();
        if (three < 0) {
            return fail(NOTHING);
        }
        if (what == 0) {
            return answer(three / SQUARE);
        }
        return answer(what == 1 ? three / WIDE % WIDE : three % WIDE);
    }

    public boolean keep(int shelf) {
        return desk.putOn(shelf) ? agree() : refuse(NO_SUCH);
    }

    public boolean take(int shelf) {
        int trouble = shelfTrouble(shelf);
        if (trouble != FINE) {
            return refuse(trouble);
        }
        desk.world.copyFrom(desk.shelves[shelf]);
        return agree();
    }

    // ---- spans

    public int span(int tray, int many, int what) {
        int trouble = trayTrouble(tray);
        if (trouble == FINE && (many < 0 || many > GIVEN_AT_MOST || what < 0 || what > 2)) {
            trouble = NO_NUMBER;
        }
        if (trouble == FINE) {
            trouble = gather(tray, many);
        }
        if (trouble != FINE) {
            return fail(trouble);
        }
        if (what > 0) {
            anatomy.closeUp(desk.world, given, what == 2);
        }
        return answer(given.count);
    }

    public int derived(int k) {
        return seriesAnswer(k, false);
    }

    public int lower(int k) {
        return seriesAnswer(k, true);
    }

    public int centre() {
        return answer(anatomy.centreSize(desk.world));
    }

    public int centralizer(int x) {
        if (!isVector(x)) {
            return fail(NO_SUCH);
        }
        return answer(anatomy.centralizerSize(desk.world, x));
    }

    public int is(int what) {
        if (what < 0 || what > 5) {
            return fail(NO_NUMBER);
        }
        World w = desk.world;
        boolean so;
        switch (what) {
            case 0: so = w.countCells() == 0; break;
            case 1: so = anatomy.wholeSeries(w, WIDE, true) == 0; break;
            case 2: so = anatomy.wholeSeries(w, WIDE, false) == 0; break;
            case 3: so = anatomy.wholeSeries(w, 1, false) == w.size; break;
            case 4: so = anatomy.isSimple(w); break;
            default: so = measures.isUnimodular(w); break;
        }
        return answer(so ? 1 : 0);
    }

    public int radical(int what) {
        if (what < 0 || what > 1) {
            return fail(NO_NUMBER);
        }
        return answer(anatomy.radicalSize(desk.world, what == 1));
    }

    public int parts(int size, int what) {
        if (size < 0 || size > desk.world.size || what < 0 || what > 3) {
            return fail(NO_NUMBER);
        }
        return answer(anatomy.countSpans(desk.world, size, what));
    }

    public boolean share() {
        int good = 0;
        int all = 0;
        for (int size = 0; size <= desk.world.size; size++) {
            good += anatomy.countSpans(desk.world, size, Anatomy.PARTS);
            all += anatomy.countSpans(desk.world, size, Anatomy.ANY);
        }
        int common = commonDivisor(good, all);
        top = common < 1 ? 0 : good / common;
        bottom = common < 1 ? 1 : all / common;
        return agree();
    }

    // ---- maps that are linear

    public int rank(int x) {
        if (!isVector(x)) {
            return fail(NO_SUCH);
        }
        return answer(desk.world.size - anatomy.centralizerSize(desk.world, x));
    }

    public int power(int x) {
        if (!isVector(x)) {
            return fail(NO_SUCH);
        }
        int least = measures.vanishingPower(desk.world, x);
        return least == 0 ? fail(NOTHING) : answer(least);
    }

    public int derivations(int what) {
        if (what < 0 || what > 2) {
            return fail(NO_NUMBER);
        }
        World w = desk.world;
        int all = what == 1 ? 0 : measures.derivationSize(w);
        int inner = what == 0 ? 0 : w.size - anatomy.centreSize(w);
        return answer(what == 1 ? inner : all - inner);
    }

    public int form() {
        return answer(measures.formRank(desk.world));
    }

    public int classes(int degree) {
        if (degree < 0 || degree > desk.world.size) {
            return fail(NO_NUMBER);
        }
        if (desk.world.firstBreak() >= 0) {
            return fail(CANNOT);
        }
        return answer(measures.classSize(desk.world, degree));
    }

    public int commuting() {
        return answer(anatomy.countCommuting(desk.world));
    }

    public int maps() {
        search.look(desk.world, desk.world, false);
        latestTries = search.tried;
        return search.spent ? fail(CANNOT) : answer(search.found);
    }

    public int sameAs(int shelf) {
        int trouble = shelfTrouble(shelf);
        if (trouble != FINE) {
            return fail(trouble);
        }
        boolean same = search.look(desk.world, desk.shelves[shelf], true);
        latestTries = search.tried;
        return search.spent ? fail(CANNOT) : answer(same ? 1 : 0);
    }

    public int tries() {
        return latestTries < 0 ? fail(NOTHING) : answer(latestTries);
    }

    public int parted(int shelf) {
        int trouble = shelfTrouble(shelf);
        if (trouble != FINE) {
            return fail(trouble);
        }
        World here = desk.world;
        World there = desk.shelves[shelf];
        if (!here.isLike(there)) {
            return answer(0);
        }
        for (int which = 1; which <= 8; which++) {
            if (tellingNumber(here, which) != tellingNumber(there, which)) {
                return answer(which);
            }
        }
        return fail(NOTHING);
    }

    // ---- other worlds

    public boolean change(int tray) {
        World w = desk.world;
        int trouble = trayTrouble(tray);
        if (trouble == FINE) {
            trouble = gatherNumbers(tray, w.size * w.size, 0, w.prime - 1);
        }
        if (trouble != FINE) {
            return refuse(trouble);
        }
        workshop.layBase(w.size, numbers);
        return workshop.changeBase(w) ? agree() : refuse(CANNOT);
    }

    public boolean squeeze(int tray) {
        int trouble = trayTrouble(tray);
        if (trouble == FINE) {
            trouble = gatherNumbers(tray, desk.world.size, -WEIGHT_AT_MOST, WEIGHT_AT_MOST);
        }
        if (trouble == FINE && !workshop.squeezeBy(desk.world, numbers)) {
            trouble = CANNOT;
        }
        return trouble == FINE ? agree() : refuse(trouble);
    }

    public int barred(int shelf) {
        int trouble = shelfTrouble(shelf);
        if (trouble != FINE) {
            return fail(trouble);
        }
        World here = desk.world;
        World there = desk.shelves[shelf];
        if (!here.isLike(there)) {
            return fail(NO_NUMBER);
        }
        if (measures.derivationSize(there) < measures.derivationSize(here)) {
            return answer(1);
        }
        if (anatomy.wholeSeries(there, 1, false) > anatomy.wholeSeries(here, 1, false)) {
            return answer(2);
        }
        return answer(anatomy.centreSize(there) < anatomy.centreSize(here) ? 3 : 0);
    }

    public int cocycle(int tray) {
        int trouble = coupleTrouble(tray);
        if (trouble != FINE) {
            return fail(trouble);
        }
        return answer(measures.isClosed(desk.world, numbers) ? 1 : 0);
    }

    public int grow(int tray) {
        World w = desk.world;
        if (w.size >= sizeLimit(w.prime)) {
            return fail(TOO_MUCH);
        }
        int trouble = coupleTrouble(tray);
        if (trouble == FINE && !measures.isClosed(w, numbers)) {
            trouble = CANNOT;
        }
        if (trouble != FINE) {
            return fail(trouble);
        }
        workshop.growBy(w, numbers);
        return answer(w.size);
    }

    public int sum(int shelf) {
        int trouble = shelfTrouble(shelf);
        if (trouble == FINE) {
            trouble = workshop.join(desk.world, desk.shelves[shelf]);
        }
        return trouble == FINE ? answer(desk.world.size) : fail(trouble);
    }

    public int rest(int tray, int many) {
        int trouble = givenTrouble(tray, many);
        if (trouble != FINE) {
            return fail(trouble);
        }
        anatomy.closeUp(desk.world, given, true);
        if (given.count >= desk.world.size) {
            return fail(CANNOT);
        }
        workshop.leaveRest(desk.world, given);
        return answer(desk.world.size);
    }

    public int takeOut(int tray, int many) {
        int trouble = givenTrouble(tray, many);
        if (trouble != FINE) {
            return fail(trouble);
        }
        if (given.count == 0) {
            return fail(CANNOT);
        }
        anatomy.closeUp(desk.world, given, false);
        workshop.leavePart(desk.world, given);
        return answer(desk.world.size);
    }

    public int tables(int prime, int size, int what) {
        boolean known = prime == 2 ? size >= 1 && size <= 3 : prime == 3 && size >= 1 && size <= 2;
        if (!known || what < 0 || what > 1) {
            return fail(NO_NUMBER);
        }
        return answer(search.countTables(prime, size, what == 1));
    }

    // ---- SCRIPTS

    public int run() {
        if (!desk.script.there) {
            return fail(NOTHING);
        }
        runner.perform(desk, anatomy, search, workshop);
        return answer(runner.steps);
    }

    public int ran(int what) {
        if (what < 0 || what > 1) {
            return fail(NO_NUMBER);
        }
        if (!runner.hasRun) {
            return fail(NOTHING);
        }
        return answer(what == 0 ? runner.missed : runner.left);
    }

    // ---- MARKS

    public int mark() {
        if (marks >= MARKS) {
            return fail(TOO_MUCH);
        }
        saved[marks].copyFrom(desk);
        marks++;
        return answer(marks);
    }

    public int back() {
        if (marks < 1) {
            return fail(NOTHING);
        }
        marks--;
        desk.copyFrom(saved[marks]);
        return answer(marks);
    }

    // ---- what the calls share

    private int fail(int trouble) {
        status = trouble;
        return NONE;
    }

    private boolean refuse(int trouble) {
        status = trouble;
        return false;
    }

    private int answer(int v) {
        status = FINE;
        return v;
    }

    private boolean agree() {
        status = FINE;
        return true;
    }

    private static boolean isTray(int tray) {
        return tray >= 0 && tray < TRAYS;
    }

    private boolean isBase(int i) {
        return i >= 0 && i < desk.world.size;
    }

    private boolean isVector(long x) {
        return x >= 0 && x < desk.world.vectors();
    }

    private int trayTrouble(int tray) {
        if (!isTray(tray)) {
            return NO_TRAY;
        }
        return lengths[tray] < 0 ? TRAY_MISSING : FINE;
    }

    private int placeTrouble(int tray, int place) {
        int trouble = trayTrouble(tray);
        if (trouble == FINE && (place < 0 || place >= lengths[tray])) {
            trouble = NO_PLACE;
        }
        return trouble;
    }

    private boolean reaches(int tray, int place, int many) {
        return place >= 0 && (long) place + many <= lengths[tray];
    }

    private int shelfTrouble(int shelf) {
        if (shelf < 0 || shelf >= SHELVES) {
            return NO_SUCH;
        }
        return desk.shelves[shelf].held ? FINE : NOTHING;
    }

    private static long cut(int sort, long v) {
        switch (sort) {
            case 0: return (byte) v;
            case 1: return (short) v;
            case 2: return (int) v;
            default: return v;
        }
    }

    /** Spans the first VECTORS of a TRAY in given; the TRAY is there. */
    private int gather(int tray, int many) {
        if (many > lengths[tray]) {
            return NO_PLACE;
        }
        World w = desk.world;
        given.begin(w.prime, w.size);
        for (int i = 0; i < many; i++) {
            long x = cells[tray * TRAY_ROOM + i];
            if (!isVector(x)) {
                return NO_NUMBER;
            }
            w.unpack((int) x, parts, 0);
            given.add(parts, 0);
        }
        return FINE;
    }

    private int givenTrouble(int tray, int many) {
        int trouble = trayTrouble(tray);
        if (trouble == FINE && (many < 1 || many > GIVEN_AT_MOST)) {
            trouble = NO_NUMBER;
        }
        return trouble == FINE ? gather(tray, many) : trouble;
    }

    /** Brings the first numbers of a TRAY that is there to numbers, if all are within bounds. */
    private int gatherNumbers(int tray, int many, int least, int most) {
        if (many > lengths[tray] || many > numbers.length) {
            return NO_PLACE;
        }
        for (int i = 0; i < many; i++) {
            long v = cells[tray * TRAY_ROOM + i];
            if (v < least || v > most) {
                return NO_NUMBER;
            }
            numbers[i] = (int) v;
        }
        return FINE;
    }

    private int coupleTrouble(int tray) {
        int trouble = trayTrouble(tray);
        if (trouble != FINE) {
            return trouble;
        }
        int n = desk.world.size;
        return gatherNumbers(tray, n * (n - 1) / 2, 0, desk.world.prime - 1);
    }

    private int seriesAnswer(int k, boolean lowerOne) {
        if (k < 0 || k > SERIES_AT_MOST) {
            return fail(NO_NUMBER);
        }
        return answer(anatomy.wholeSeries(desk.world, k, lowerOne));
    }

    private int tellingNumber(World w, int which) {
        switch (which) {
            case 1: return anatomy.wholeSeries(w, 1, false);
            case 2: return anatomy.wholeSeries(w, 2, false);
            case 3: return anatomy.wholeSeries(w, 2, true);
            case 4: return anatomy.centreSize(w);
            case 5: return measures.derivationSize(w);
            case 6: return measures.formRank(w);
            case 7: return measures.classSize(w, 2);
            default: return anatomy.countCommuting(w);
        }
    }

    private static int commonDivisor(int a, int b) {
        int x = a;
        int y = b;
        for (int turn = 0; turn < 64 && y > 0; turn++) {
            int z = x % y;
            x = y;
            y = z;
        }
        return x;
    }

    /** What is left of v by p, 0 to p less 1. */
    private static int mod(int v, int p) {
        if (p < 2) {
            return 0;
        }
        int left = v % p;
        return left < 0 ? left + p : left;
    }

    private static int inverse(int v, int p) {
        for (int other = 1; other < p; other++) {
            if (v * other % p == 1) {
                return other;
            }
        }
        return 0;
    }

    private static int raised(int p, int exponent) {
        int product = 1;
        for (int i = 0; i < exponent; i++) {
            product *= p;
        }
        return product;
    }

    /** The greatest SIZE with a PRIME, 0 for what is no PRIME. */
    private static int sizeLimit(int p) {
        switch (p) {
            case 2:
            case 3: return 5;
            case 5: return 4;
            case 7: return 3;
            default: return 0;
        }
    }

    /** A WORLD; its TABLE has both orders of each couple, so that nobody else has to turn signs. */
    private static final class World {
        final int[] table = new int[CUBE];
        int prime = 2;
        int size = 1;
        boolean held;

        void makeEmpty(int p, int n) {
            int most = sizeLimit(p);
            if (most == 0) {
                return;
            }
            prime = p;
            size = Math.max(1, Math.min(n, most));
            Arrays.fill(table, 0);
        }

        void copyFrom(World other) {
            prime = other.prime;
            size = other.size;
            System.arraycopy(other.table, 0, table, 0, CUBE);
        }

        boolean isLike(World other) {
            return prime == other.prime && size == other.size;
        }

        int vectors() {
            return raised(prime, size);
        }

        int cell(int i, int j, int k) {
            if (i < 0 || i >= size || j < 0 || j >= size || k < 0 || k >= size) {
                return 0;
            }
            return table[(i * WIDE + j) * WIDE + k];
        }

        void setCell(int i, int j, int k, int v) {
            if (i == j || i < 0 || i >= size || j < 0 || j >= size || k < 0 || k >= size) {
                return;
            }
            table[(i * WIDE + j) * WIDE + k] = mod(v, prime);
            table[(j * WIDE + i) * WIDE + k] = mod(-v, prime);
        }

        int countCells() {
            int count = 0;
            for (int i = 0; i < size; i++) {
                for (int j = i + 1; j < size; j++) {
                    for (int k = 0; k < size; k++) {
                        count += cell(i, j, k) == 0 ? 0 : 1;
                    }
                }
            }
            return count;
        }

        void unpack(int x, int[] out, int from) {
            int rest = x;
            for (int k = 0; k < size && from + k < out.length; k++) {
                int part = mod(rest, prime);
                out[from + k] = part;
                rest = prime < 2 ? 0 : (rest - part) / prime;
            }
        }

        int pack(int[] x) {
            int v = 0;
            for (int k = Math.min(size, x.length) - 1; k >= 0; k--) {
                v = v * prime + x[k];
            }
            return v;
        }

        /** out becomes the BRACKET of what begins at place at of x with what begins at place by of y. */
        void bracketInto(int[] x, int at, int[] y, int by, int[] out) {
            if (at < 0 || by < 0 || at + size > x.length || by + size > y.length || size > out.length) {
                return;
            }
            Arrays.fill(out, 0, size, 0);
            for (int i = 0; i < size; i++) {
                for (int j = i + 1; j < size; j++) {
                    int much = x[at + i] * y[by + j] - x[at + j] * y[by + i];
                    if (much != 0) {
                        addCells(i, j, much, out);
                    }
                }
            }
            for (int k = 0; k < size; k++) {
                out[k] = mod(out[k], prime);
            }
        }

        private void addCells(int i, int j, int much, int[] out) {
            int from = (i * WIDE + j) * WIDE;
            for (int k = 0; k < size; k++) {
                out[k] += much * table[from + k];
            }
        }

        /** The first three that break JACOBI as i times 25, j times 5 and k together, or NONE. */
        int firstBreak() {
            for (int i = 0; i < size; i++) {
                for (int j = i + 1; j < size; j++) {
                    for (int k = j + 1; k < size; k++) {
                        if (!isJacobi(i, j, k)) {
                            return i * SQUARE + j * WIDE + k;
                        }
                    }
                }
            }
            return NONE;
        }

        private boolean isJacobi(int i, int j, int k) {
            for (int part = 0; part < size; part++) {
                int all = 0;
                for (int m = 0; m < size; m++) {
                    all += cell(j, k, m) * cell(i, m, part);
                    all += cell(k, i, m) * cell(j, m, part);
                    all += cell(i, j, m) * cell(k, m, part);
                }
                if (mod(all, prime) != 0) {
                    return false;
                }
            }
            return true;
        }

        /** The TABLE whose numbers are the digits of a code, by the PRIME. */
        void decode(int p, int n, int code) {
            makeEmpty(p, n);
            int rest = code;
            for (int i = 0; i < size; i++) {
                for (int j = i + 1; j < size; j++) {
                    for (int k = 0; k < size; k++) {
                        int digit = mod(rest, prime);
                        setCell(i, j, k, digit);
                        rest = prime < 2 ? 0 : (rest - digit) / prime;
                    }
                }
            }
        }

        boolean readFrom(Tokens t) {
            if (!t.takeWord("prime") || !t.seesNumber(2, 7)) {
                return false;
            }
            int p = t.value;
            if (sizeLimit(p) == 0) {
                return t.blame(Tokens.BAD_NUMBER);
            }
            t.advance();
            if (!t.takeSign(';') || !t.takeWord("size") || !t.seesNumber(1, sizeLimit(p))) {
                return false;
            }
            makeEmpty(p, t.value);
            t.advance();
            if (!t.takeSign(';')) {
                return false;
            }
            int told = 0;
            for (int turn = 0; turn < TAPE_ROOM && !t.atEnd(); turn++) {
                int couple = readCouple(t, told);
                if (couple < 0 || !readTerms(t, couple)) {
                    return false;
                }
                told |= 1 << couple;
            }
            return t.praise();
        }

        /** The couple as i times 5 and j together, or NONE behind a FAULT. */
        private int readCouple(Tokens t, int told) {
            if (!t.takeWord("bracket") || !t.seesNumber(0, size - 1)) {
                return NONE;
            }
            int i = t.value;
            t.advance();
            if (!t.seesNumber(i + 1, size - 1)) {
                return NONE;
            }
            int couple = i * WIDE + t.value;
            if ((told >> couple & 1) != 0) {
                t.blame(Tokens.TOLD_ALREADY);
                return NONE;
            }
            t.advance();
            return t.takeWord("gives") ? couple : NONE;
        }

        private boolean readTerms(Tokens t, int couple) {
            int given = 0;
            for (int turn = 0; turn < TAPE_ROOM; turn++) {
                if (turn > 0 && t.isSign(';')) {
                    t.advance();
                    return true;
                }
                boolean less = t.isWord("less");
                if (less) {
                    t.advance();
                }
                if (!t.seesNumber(1, prime - 1)) {
                    return false;
                }
                int much = t.value;
                t.advance();
                if (!t.takeWord("of") || !t.seesNumber(0, size - 1)) {
                    return false;
                }
                int k = t.value;
                if ((given >> k & 1) != 0) {
                    return t.blame(Tokens.TOLD_ALREADY);
                }
                given |= 1 << k;
                setCell(couple / WIDE, couple % WIDE, k, less ? -much : much);
                t.advance();
            }
            return t.blame(Tokens.CANT_STAND);
        }
    }

    /** A SPAN by its ECHELON: the row that LEADS at a part stands in the place of that part. */
    private static final class Echelon {
        final int stride;
        final int[] rows;
        private final int[] hand;
        private int prime = 2;
        int width;
        int count;
        int leads;

        Echelon(int room) {
            stride = Math.max(1, Math.min(room, SQUARE));
            rows = new int[stride * stride];
            hand = new int[stride];
        }

        void begin(int p, int wide) {
            prime = Math.max(2, p);
            width = Math.max(0, Math.min(wide, stride));
            count = 0;
            leads = 0;
        }

        void beginWhole(int p, int wide) {
            begin(p, Math.min(wide, WIDE));
            for (int l = 0; l < width; l++) {
                System.arraycopy(UNITS, l * WIDE, rows, l * stride, width);
            }
            count = width;
            leads = (1 << width) - 1;
        }

        /** Of one of the same room. */
        void copyFrom(Echelon other) {
            begin(other.prime, other.width);
            for (int l = 0; l < width; l++) {
                if (other.leadsAt(l)) {
                    System.arraycopy(other.rows, l * other.stride, rows, l * stride, width);
                }
            }
            count = other.count;
            leads = other.leads;
        }

        boolean leadsAt(int l) {
            return (leads >> l & 1) != 0;
        }

        /** What begins at a place of v comes to the SPAN: whether that grew. */
        boolean add(int[] v, int from) {
            if (from < 0 || from + width > v.length) {
                return false;
            }
            System.arraycopy(v, from, hand, 0, width);
            reduce(hand);
            int lead = firstOf(hand);
            if (lead >= width) {
                return false;
            }
            int factor = inverse(hand[lead], prime);
            for (int c = lead; c < width; c++) {
                hand[c] = mod(hand[c] * factor, prime);
            }
            for (int l = 0; l < lead; l++) {
                int much = rows[l * stride + lead];
                if (leadsAt(l) && much != 0) {
                    for (int c = lead; c < width; c++) {
                        rows[l * stride + c] = mod(rows[l * stride + c] - much * hand[c], prime);
                    }
                }
            }
            System.arraycopy(hand, 0, rows, lead * stride, width);
            leads |= 1 << lead;
            count++;
            return true;
        }

        boolean holds(int[] v, int from) {
            if (from < 0 || from + width > v.length) {
                return false;
            }
            System.arraycopy(v, from, hand, 0, width);
            reduce(hand);
            return firstOf(hand) >= width;
        }

        /** v becomes what is left of it without the SPAN: 0 wherever a row LEADS. */
        void reduce(int[] v) {
            int p = prime;
            if (p < 2 || v.length < width) {
                return;
            }
            for (int l = 0; l < width; l++) {
                int much = v[l];
                if (much != 0 && (leads >> l & 1) != 0) {
                    for (int c = l; c < width; c++) {
                        v[c] = (v[c] + (p - much) * rows[l * stride + c]) % p;
                    }
                }
            }
        }

        private int firstOf(int[] v) {
            for (int l = 0; l < width; l++) {
                if (v[l] != 0) {
                    return l;
                }
            }
            return width;
        }
    }

    /** All SPANS of one SIZE, one behind the other, each once, by their ECHELONS. */
    private static final class SpanWalk {
        final Echelon at = new Echelon(WIDE);
        private final int[] free = new int[SQUARE];
        private int frees;
        private int prime = 2;
        private int wide;
        private int wanted;
        private int leads;

        void begin(World w, int size) {
            prime = w.prime;
            wide = w.size;
            wanted = size;
            leads = NONE;
        }

        boolean goOn() {
            return (leads >= 0 && turnFree()) || nextLeads();
        }

        /** The free parts are counted through like digits. */
        private boolean turnFree() {
            for (int i = 0; i < frees; i++) {
                int place = free[i];
                at.rows[place]++;
                if (at.rows[place] < prime) {
                    return true;
                }
                at.rows[place] = 0;
            }
            return false;
        }

        private boolean nextLeads() {
            for (int mask = leads + 1; mask < 1 << wide; mask++) {
                if (Integer.bitCount(mask) == wanted) {
                    leads = mask;
                    layOut();
                    return true;
                }
            }
            return false;
        }

        private void layOut() {
            at.begin(prime, wide);
            frees = 0;
            for (int l = 0; l < wide; l++) {
                if ((leads >> l & 1) != 0) {
                    System.arraycopy(UNITS, l * WIDE, at.rows, l * WIDE, wide);
                    noteFree(l);
                }
            }
            at.leads = leads;
            at.count = wanted;
        }

        private void noteFree(int l) {
            for (int c = l + 1; c < wide; c++) {
                if ((leads >> c & 1) == 0) {
                    free[frees] = l * WIDE + c;
                    frees++;
                }
            }
        }
    }

    /** What is told by SPANS: series, centres, PARTS, IDEALS, radicals. */
    private static final class Anatomy {
        static final int ANY = -1;
        static final int PARTS = 0;
        static final int IDEALS = 1;
        static final int ABELIANS = 2;

        private final Echelon now = new Echelon(WIDE);
        private final Echelon later = new Echelon(WIDE);
        private final Echelon whole = new Echelon(WIDE);
        private final Echelon nothing = new Echelon(WIDE);
        private final Echelon line = new Echelon(WIDE);
        private final Echelon bonds = new Echelon(WIDE);
        private final SpanWalk walk = new SpanWalk();
        private final int[] hand = new int[WIDE];
        private final int[] columns = new int[SQUARE];

        /** The SIZE of the k-th of the series of a PART. */
        int seriesSize(World w, Echelon of, int k, boolean lowerOne) {
            now.copyFrom(of);
            for (int step = 0; step < k && now.count > 0; step++) {
                Echelon by = lowerOne ? of : now;
                later.begin(w.prime, w.size);
                for (int l = 0; l < w.size; l++) {
                    for (int m = 0; m < w.size; m++) {
                        if (now.leadsAt(l) && by.leadsAt(m)) {
                            w.bracketInto(now.rows, l * WIDE, by.rows, m * WIDE, hand);
                            later.add(hand, 0);
                        }
                    }
                }
                if (later.count == now.count) {
                    return now.count;
                }
                now.copyFrom(later);
            }
            return now.count;
        }

        int wholeSeries(World w, int k, boolean lowerOne) {
            whole.beginWhole(w.prime, w.size);
            return seriesSize(w, whole, k, lowerOne);
        }

        int centreSize(World w) {
            whole.beginWhole(w.prime, w.size);
            nothing.begin(w.prime, w.size);
            return sizeOfMovers(w, whole, nothing);
        }

        int centralizerSize(World w, int x) {
            w.unpack(x, hand, 0);
            line.begin(w.prime, w.size);
            line.add(hand, 0);
            nothing.begin(w.prime, w.size);
            return sizeOfMovers(w, line, nothing);
        }

        /** The SIZE of all VECTORS whose BRACKETS with one SPAN lie in another one. */
        private int sizeOfMovers(World w, Echelon over, Echelon into) {
            bonds.begin(w.prime, w.size);
            for (int l = 0; l < w.size; l++) {
                if (over.leadsAt(l)) {
                    bind(w, over, l, into);
                }
            }
            return w.size - bonds.count;
        }

        private void bind(World w, Echelon over, int l, Echelon into) {
            for (int i = 0; i < w.size; i++) {
                w.bracketInto(UNITS, i * WIDE, over.rows, l * WIDE, hand);
                into.reduce(hand);
                for (int k = 0; k < w.size; k++) {
                    columns[k * WIDE + i] = hand[k];
                }
            }
            for (int k = 0; k < w.size; k++) {
                bonds.add(columns, k * WIDE);
            }
        }

        /** A SPAN becomes the least PART, or IDEAL, that holds it. */
        void closeUp(World w, Echelon e, boolean ideal) {
            boolean grew = true;
            for (int turn = 0; turn <= WIDE && grew; turn++) {
                grew = ideal ? growToIdeal(w, e) : growToPart(w, e);
            }
        }

        private boolean growToIdeal(World w, Echelon e) {
            boolean grew = false;
            for (int l = 0; l < w.size; l++) {
                for (int i = 0; i < w.size; i++) {
                    if (e.leadsAt(l)) {
                        w.bracketInto(e.rows, l * WIDE, UNITS, i * WIDE, hand);
                        if (e.add(hand, 0)) {
                            grew = true;
                        }
                    }
                }
            }
            return grew;
        }

        private boolean growToPart(World w, Echelon e) {
            boolean grew = false;
            for (int l = 0; l < w.size; l++) {
                for (int m = l + 1; m < w.size; m++) {
                    if (e.leadsAt(l) && e.leadsAt(m)) {
                        w.bracketInto(e.rows, l * WIDE, e.rows, m * WIDE, hand);
                        if (e.add(hand, 0)) {
                            grew = true;
                        }
                    }
                }
            }
            return grew;
        }

        private boolean isIdeal(World w, Echelon e) {
            for (int l = 0; l < w.size; l++) {
                for (int i = 0; i < w.size; i++) {
                    if (e.leadsAt(l)) {
                        w.bracketInto(e.rows, l * WIDE, UNITS, i * WIDE, hand);
                        if (!e.holds(hand, 0)) {
                            return false;
                        }
                    }
                }
            }
            return true;
        }

        /** Whether all BRACKETS of a SPAN's VECTORS lie in another one. */
        private boolean bracketsLieIn(World w, Echelon e, Echelon into) {
            for (int l = 0; l < w.size; l++) {
                for (int m = l + 1; m < w.size; m++) {
                    if (e.leadsAt(l) && e.leadsAt(m)) {
                        w.bracketInto(e.rows, l * WIDE, e.rows, m * WIDE, hand);
                        if (!into.holds(hand, 0)) {
                            return false;
                        }
                    }
                }
            }
            return true;
        }

        boolean isSimple(World w) {
            if (w.countCells() == 0) {
                return false;
            }
            int all = w.vectors();
            for (int x = 1; x < all; x++) {
                w.unpack(x, hand, 0);
                line.begin(w.prime, w.size);
                line.add(hand, 0);
                closeUp(w, line, true);
                if (line.count < w.size) {
                    return false;
                }
            }
            return true;
        }

        int radicalSize(World w, boolean nilpotent) {
            for (int size = w.size; size > 0; size--) {
                walk.begin(w, size);
                for (int turn = 0; turn < SPANS_AT_MOST && walk.goOn(); turn++) {
                    if (isIdeal(w, walk.at) && seriesSize(w, walk.at, size, nilpotent) == 0) {
                        return size;
                    }
                }
            }
            return 0;
        }

        int countSpans(World w, int size, int what) {
            int count = 0;
            nothing.begin(w.prime, w.size);
            walk.begin(w, size);
            for (int turn = 0; turn < SPANS_AT_MOST && walk.goOn(); turn++) {
                count += isOfKind(w, walk.at, what) ? 1 : 0;
            }
            return count;
        }

        private boolean isOfKind(World w, Echelon e, int what) {
            switch (what) {
                case ANY: return true;
                case PARTS: return bracketsLieIn(w, e, e);
                case IDEALS: return isIdeal(w, e);
                case ABELIANS: return bracketsLieIn(w, e, nothing);
                default: return bracketsLieIn(w, e, e)
                        && seriesSize(w, e, e.count, true) == 0
                        && sizeOfMovers(w, e, e) == e.count;
            }
        }

        /** One VECTOR of each line is looked at: all others of it commute with the same ones. */
        int countCommuting(World w) {
            int all = w.vectors();
            int count = all;
            walk.begin(w, 1);
            nothing.begin(w.prime, w.size);
            for (int turn = 0; turn < SPANS_AT_MOST && walk.goOn(); turn++) {
                count += (w.prime - 1) * raised(w.prime, sizeOfMovers(w, walk.at, nothing));
            }
            return count;
        }
    }

    /** What is told by matrices: powers, DERIVATIONS, the FORM, CLASSES. */
    private static final class Measures {
        private final Echelon bonds = new Echelon(SQUARE);
        private final int[] row = new int[SQUARE];
        private final int[] matrix = new int[SQUARE];
        private final int[] product = new int[SQUARE];
        private final int[] next = new int[SQUARE];
        private final int[] hand = new int[WIDE];
        private final int[] numbering = new int[1 << WIDE];

        boolean isUnimodular(World w) {
            for (int i = 0; i < w.size; i++) {
                int trace = 0;
                for (int j = 0; j < w.size; j++) {
                    trace += w.cell(i, j, j);
                }
                if (mod(trace, w.prime) != 0) {
                    return false;
                }
            }
            return true;
        }

        /** The least power of a VECTOR's MATRIX that is 0, or 0 if none is. */
        int vanishingPower(World w, int x) {
            w.unpack(x, row, 0);
            for (int j = 0; j < w.size; j++) {
                w.bracketInto(row, 0, UNITS, j * WIDE, hand);
                System.arraycopy(hand, 0, matrix, j * WIDE, w.size);
            }
            System.arraycopy(matrix, 0, product, 0, SQUARE);
            for (int exponent = 1; exponent <= w.size; exponent++) {
                if (isZero(product, w.size)) {
                    return exponent;
                }
                multiply(w);
            }
            return 0;
        }

        private static boolean isZero(int[] square, int n) {
            for (int i = 0; i < n; i++) {
                for (int j = 0; j < n; j++) {
                    if (square[i * WIDE + j] != 0) {
                        return false;
                    }
                }
            }
            return true;
        }

        private void multiply(World w) {
            for (int i = 0; i < w.size; i++) {
                for (int j = 0; j < w.size; j++) {
                    int all = 0;
                    for (int m = 0; m < w.size; m++) {
                        all += product[i * WIDE + m] * matrix[m * WIDE + j];
                    }
                    next[i * WIDE + j] = mod(all, w.prime);
                }
            }
            System.arraycopy(next, 0, product, 0, SQUARE);
        }

        /** The unknowns are the parts of D of each BASE vector; each couple and part bind them once. */
        int derivationSize(World w) {
            int n = w.size;
            bonds.begin(w.prime, n * n);
            for (int i = 0; i < n; i++) {
                for (int j = i + 1; j < n; j++) {
                    for (int k = 0; k < n; k++) {
                        bindDerivation(w, i, j, k);
                    }
                }
            }
            return n * n - bonds.count;
        }

        private void bindDerivation(World w, int i, int j, int k) {
            int n = w.size;
            Arrays.fill(row, 0);
            for (int m = 0; m < n; m++) {
                row[m * n + k] += w.cell(i, j, m);
                row[i * n + m] -= w.cell(m, j, k);
                row[j * n + m] -= w.cell(i, m, k);
            }
            for (int u = 0; u < n * n; u++) {
                row[u] = mod(row[u], w.prime);
            }
            bonds.add(row, 0);
        }

        int formRank(World w) {
            int n = w.size;
            bonds.begin(w.prime, n);
            for (int i = 0; i < n; i++) {
                for (int j = 0; j < n; j++) {
                    int trace = 0;
                    for (int a = 0; a < n; a++) {
                        for (int b = 0; b < n; b++) {
                            trace += w.cell(i, a, b) * w.cell(j, b, a);
                        }
                    }
                    row[j] = mod(trace, w.prime);
                }
                bonds.add(row, 0);
            }
            return bonds.count;
        }

        /** Closed less exact; where JACOBI is broken, too, for then it still tells WORLDS apart. */
        int classSize(World w, int degree) {
            int exact = rankOfD(w, degree - 1);
            int bound = rankOfD(w, degree);
            return numberForms(w, degree) - bound - exact;
        }

        /** Numbers the sets of so many BASE vectors; gives how many there are. */
        private int numberForms(World w, int degree) {
            int count = 0;
            for (int set = 0; set < 1 << w.size && set < numbering.length; set++) {
                if (Integer.bitCount(set) == degree) {
                    numbering[set] = count;
                    count++;
                }
            }
            return count;
        }

        private int rankOfD(World w, int degree) {
            bonds.begin(w.prime, numberForms(w, degree));
            for (int set = 0; set < 1 << w.size; set++) {
                if (Integer.bitCount(set) == degree + 1) {
                    fillD(w, set);
                    bonds.add(row, 0);
                }
            }
            return bonds.count;
        }

        /** row tells by how much each numbered set's number goes into d f of the BASE vectors of a set. */
        private void fillD(World w, int set) {
            Arrays.fill(row, 0);
            for (int i = 0; i < w.size; i++) {
                for (int j = i + 1; j < w.size; j++) {
                    if ((set >> i & 1) != 0 && (set >> j & 1) != 0) {
                        int turns = Integer.bitCount(set & ((1 << i) - 1)) + Integer.bitCount(set & ((1 << j) - 1));
                        addCouple(w, i, j, set & ~(1 << i) & ~(1 << j), turns);
                    }
                }
            }
            for (int u = 0; u < row.length; u++) {
                row[u] = mod(row[u], w.prime);
            }
        }

        private void addCouple(World w, int i, int j, int others, int turns) {
            for (int m = 0; m < w.size; m++) {
                int whole = others | 1 << m;
                if ((others >> m & 1) == 0 && whole < numbering.length) {
                    boolean odd = (turns + Integer.bitCount(others & ((1 << m) - 1)) & 1) != 0;
                    int much = w.cell(i, j, m);
                    row[numbering[whole]] += odd ? -much : much;
                }
            }
        }

        /** Whether numbers for all couples, as a 2-FORM, are closed. */
        boolean isClosed(World w, int[] couples) {
            numberForms(w, 2);
            for (int set = 0; set < 1 << w.size; set++) {
                if (Integer.bitCount(set) == 3) {
                    fillD(w, set);
                    if (mod(valueOf(w, couples), w.prime) != 0) {
                        return false;
                    }
                }
            }
            return true;
        }

        private int valueOf(World w, int[] couples) {
            int all = 0;
            int at = 0;
            for (int i = 0; i < w.size; i++) {
                for (int j = i + 1; j < w.size && at < couples.length; j++) {
                    all += couples[at] * row[numbering[1 << i | 1 << j]];
                    at++;
                }
            }
            return all;
        }
    }

    /** Looks for MAPS, in the document's order, and counts TRIES. */
    private static final class MapSearch {
        int tried;
        int found;
        boolean spent;
        private final int[] images = new int[SQUARE];
        private final int[] matrices = new int[CUBE];
        private final int[] dueAt = new int[SQUARE];
        private final int[] set = new int[WIDE];
        private final Echelon[] ahead = new Echelon[WIDE];
        private final World one = new World();
        private final World other = new World();
        private final int[] kinds = new int[1 << 9];

        MapSearch() {
            for (int i = 0; i < WIDE; i++) {
                ahead[i] = new Echelon(WIDE);
            }
        }

        /** Counts MAPS, or looks for the first alone; whether there was one. */
        boolean look(World from, World to, boolean first) {
            tried = 0;
            found = 0;
            spent = false;
            if (!from.isLike(to)) {
                return false;
            }
            noteDue(from);
            int last = to.vectors() - 1;
            int level = 0;
            ahead[0].begin(to.prime, to.size);
            startLevel(0);
            for (int turn = 0; turn < FAR_ABOVE && level >= 0; turn++) {
                if (set[level] >= last) {
                    level--;
                    continue;
                }
                if (tried >= TRIES_AT_MOST) {
                    spent = true;
                    break;
                }
                tried++;
                set[level]++;
                turnImage(to, level);
                if (!fits(from, to, level)) {
                    continue;
                }
                if (level + 1 < to.size) {
                    goDeeper(to, level);
                    level++;
                    continue;
                }
                found++;
                if (first) {
                    break;
                }
            }
            return found > 0;
        }

        /** A couple is looked at as soon as it and all that its BRACKET has are set. */
        private void noteDue(World from) {
            for (int i = 0; i < from.size; i++) {
                for (int j = i + 1; j < from.size; j++) {
                    int due = j;
                    for (int k = j + 1; k < from.size; k++) {
                        if (from.cell(i, j, k) != 0) {
                            due = k;
                        }
                    }
                    dueAt[i * WIDE + j] = due;
                }
            }
        }

        private void startLevel(int level) {
            set[level] = 0;
            Arrays.fill(images, level * WIDE, level * WIDE + WIDE, 0);
        }

        private void turnImage(World to, int level) {
            for (int k = level * WIDE; k < level * WIDE + to.size; k++) {
                images[k]++;
                if (images[k] < to.prime) {
                    return;
                }
                images[k] = 0;
            }
        }

        private boolean fits(World from, World to, int level) {
            if (ahead[level].holds(images, level * WIDE)) {
                return false;
            }
            for (int j = 1; j <= level; j++) {
                for (int i = 0; i < j; i++) {
                    if (dueAt[i * WIDE + j] == level && !agrees(from, to, i, j)) {
                        return false;
                    }
                }
            }
            return true;
        }

        private boolean agrees(World from, World to, int i, int j) {
            int due = dueAt[i * WIDE + j];
            int couple = (i * WIDE + j) * WIDE;
            for (int k = 0; k < to.size; k++) {
                int all = 0;
                for (int b = 0; b < to.size; b++) {
                    all += images[j * WIDE + b] * matrices[i * SQUARE + b * WIDE + k];
                }
                for (int m = 0; m <= due; m++) {
                    all -= from.table[couple + m] * images[m * WIDE + k];
                }
                if (mod(all, to.prime) != 0) {
                    return false;
                }
            }
            return true;
        }

        /** The image's MATRIX is made once here, for all that is set behind it. */
        private void goDeeper(World to, int level) {
            for (int b = 0; b < to.size; b++) {
                for (int k = 0; k < to.size; k++) {
                    int all = 0;
                    for (int a = 0; a < to.size; a++) {
                        all += images[level * WIDE + a] * to.cell(a, b, k);
                    }
                    matrices[level * SQUARE + b * WIDE + k] = mod(all, to.prime);
                }
            }
            ahead[level + 1].copyFrom(ahead[level]);
            ahead[level + 1].add(images, level * WIDE);
            startLevel(level + 1);
        }

        /** ALL TABLES that are LAWFUL, or those of them that are unlike. */
        int countTables(int p, int n, boolean unlike) {
            int codes = raised(p, n * (n - 1) / 2 * n);
            int good = 0;
            int kindsSeen = 0;
            for (int code = 0; code < codes && code < kinds.length; code++) {
                one.decode(p, n, code);
                if (one.firstBreak() < 0) {
                    good++;
                    if (unlike && !isSeen(p, n, kindsSeen)) {
                        kinds[kindsSeen] = code;
                        kindsSeen++;
                    }
                }
            }
            return unlike ? kindsSeen : good;
        }

        private boolean isSeen(int p, int n, int kindsSeen) {
            for (int i = 0; i < kindsSeen; i++) {
                other.decode(p, n, kinds[i]);
                if (look(one, other, true)) {
                    return true;
                }
            }
            return false;
        }
    }

    /** Makes another WORLD out of one. */
    private static final class Workshop {
        private final World made = new World();
        private final Echelon both = new Echelon(SQUARE);
        private final int[] base = new int[SQUARE];
        private final int[] row = new int[2 * WIDE];
        private final int[] hand = new int[WIDE];
        private final int[] kept = new int[WIDE];

        /** The new BASE vectors are the rows of base; false, and nothing done, if they don't span all. */
        boolean changeBase(World w) {
            int n = w.size;
            both.begin(w.prime, 2 * n);
            for (int i = 0; i < n; i++) {
                for (int k = 0; k < n; k++) {
                    row[k] = base[i * WIDE + k];
                    row[n + k] = i == k ? 1 : 0;
                }
                both.add(row, 0);
            }
            // Beside each old BASE vector there now stands how it is told by the new ones.
            if ((both.leads & (1 << n) - 1) != (1 << n) - 1) {
                return false;
            }
            made.makeEmpty(w.prime, n);
            for (int i = 0; i < n; i++) {
                for (int j = i + 1; j < n; j++) {
                    w.bracketInto(base, i * WIDE, base, j * WIDE, hand);
                    tellByNew(i, j);
                }
            }
            w.copyFrom(made);
            return true;
        }

        private void tellByNew(int i, int j) {
            int n = made.size;
            for (int k = 0; k < n; k++) {
                int all = 0;
                for (int l = 0; l < n; l++) {
                    all += hand[l] * both.rows[l * both.stride + n + k];
                }
                made.setCell(i, j, k, all);
            }
        }

        /** The n rows of n numbers become those of base. */
        void layBase(int n, int[] numbers) {
            for (int i = 0; i < n && i < WIDE; i++) {
                for (int k = 0; k < n && k < WIDE && i * n + k < numbers.length; k++) {
                    base[i * WIDE + k] = numbers[i * n + k];
                }
            }
        }

        /** base is made ready to exchange two; false if that can't be. */
        boolean laySwap(World w, int i, int j) {
            if (i == j || !isBaseOf(w, i) || !isBaseOf(w, j)) {
                return false;
            }
            System.arraycopy(UNITS, 0, base, 0, SQUARE);
            base[i * WIDE + i] = 0;
            base[j * WIDE + j] = 0;
            base[i * WIDE + j] = 1;
            base[j * WIDE + i] = 1;
            return true;
        }

        boolean layScale(World w, int i, int much) {
            int factor = mod(much, w.prime);
            if (factor == 0 || !isBaseOf(w, i)) {
                return false;
            }
            System.arraycopy(UNITS, 0, base, 0, SQUARE);
            base[i * WIDE + i] = factor;
            return true;
        }

        /** So much of i is to come to j. */
        boolean layAdd(World w, int much, int i, int j) {
            if (i == j || !isBaseOf(w, i) || !isBaseOf(w, j)) {
                return false;
            }
            System.arraycopy(UNITS, 0, base, 0, SQUARE);
            base[j * WIDE + i] = mod(much, w.prime);
            return true;
        }

        private static boolean isBaseOf(World w, int i) {
            return i >= 0 && i < w.size;
        }

        boolean squeezeBy(World w, int[] weights) {
            made.copyFrom(w);
            for (int i = 0; i < w.size; i++) {
                for (int j = i + 1; j < w.size; j++) {
                    for (int k = 0; k < w.size; k++) {
                        int above = weights[i] + weights[j] - weights[k];
                        if (above < 0 && w.cell(i, j, k) != 0) {
                            return false;
                        }
                        if (above > 0) {
                            made.setCell(i, j, k, 0);
                        }
                    }
                }
            }
            w.copyFrom(made);
            return true;
        }

        /** There is room for a BASE vector more. */
        void growBy(World w, int[] couples) {
            int n = w.size;
            made.makeEmpty(w.prime, n + 1);
            layInto(w, 0);
            int at = 0;
            for (int i = 0; i < n; i++) {
                for (int j = i + 1; j < n && at < couples.length; j++) {
                    made.setCell(i, j, n, couples[at]);
                    at++;
                }
            }
            w.copyFrom(made);
        }

        /** The STATUS of a SUM. */
        int join(World w, World shelved) {
            if (w.prime != shelved.prime) {
                return NO_NUMBER;
            }
            if (w.size + shelved.size > sizeLimit(w.prime)) {
                return TOO_MUCH;
            }
            made.makeEmpty(w.prime, w.size + shelved.size);
            layInto(w, 0);
            layInto(shelved, w.size);
            w.copyFrom(made);
            return FINE;
        }

        private void layInto(World w, int from) {
            for (int i = 0; i < w.size; i++) {
                for (int j = i + 1; j < w.size; j++) {
                    for (int k = 0; k < w.size; k++) {
                        made.setCell(from + i, from + j, from + k, w.cell(i, j, k));
                    }
                }
            }
        }

        /** The IDEAL is less than all. */
        void leaveRest(World w, Echelon ideal) {
            int left = noteKept(w.size, ~ideal.leads);
            made.makeEmpty(w.prime, left);
            for (int a = 0; a < left; a++) {
                for (int b = a + 1; b < left; b++) {
                    w.bracketInto(UNITS, kept[a] * WIDE, UNITS, kept[b] * WIDE, hand);
                    ideal.reduce(hand);
                    tellByKept(a, b, left);
                }
            }
            w.copyFrom(made);
        }

        /** The PART is more than 0. */
        void leavePart(World w, Echelon part) {
            int left = noteKept(w.size, part.leads);
            made.makeEmpty(w.prime, left);
            for (int a = 0; a < left; a++) {
                for (int b = a + 1; b < left; b++) {
                    w.bracketInto(part.rows, kept[a] * WIDE, part.rows, kept[b] * WIDE, hand);
                    tellByKept(a, b, left);
                }
            }
            w.copyFrom(made);
        }

        private int noteKept(int n, int chosen) {
            int count = 0;
            for (int l = 0; l < n; l++) {
                if ((chosen >> l & 1) != 0) {
                    kept[count] = l;
                    count++;
                }
            }
            return count;
        }

        private void tellByKept(int a, int b, int left) {
            for (int k = 0; k < left; k++) {
                made.setCell(a, b, k, hand[kept[k]]);
            }
        }
    }

    /** The tape, the TOKENS of its text, and the FAULT told latest. */
    private static final class Tokens {
        static final int CANT_BEGIN = 1;
        static final int CANT_STAND = 2;
        static final int BAD_NUMBER = 4;
        static final int TOLD_ALREADY = 5;
        static final int TOO_LONG = 6;
        static final int TOO_DEEP = 7;
        private static final int END = 0;
        private static final int WORD = 1;
        private static final int NUMBER = 2;
        private static final int SIGN = 3;
        private static final int BAD = 4;
        private static final int DIGITS_AT_MOST = 4;

        int onTape;
        int value;
        int faultKind = NONE;
        int faultPlace = NONE;
        private final byte[] tape = new byte[TAPE_ROOM];
        private int length;
        private int start;
        private int end;
        private int kind;

        /** The four bytes of an int, the highest first. */
        void append(int bytes) {
            for (int shift = 24; shift >= 0 && onTape < TAPE_ROOM; shift -= 8) {
                tape[onTape] = (byte) (bytes >> shift);
                onTape++;
            }
        }

        void begin(int textLength) {
            length = Math.max(0, Math.min(textLength, TAPE_ROOM));
            end = 0;
            advance();
        }

        void advance() {
            start = end;
            while (start < length && isBlank(tape[start])) {
                start++;
            }
            end = start;
            if (start >= length) {
                kind = END;
                return;
            }
            int first = tape[start];
            if (isLetter(first)) {
                kind = WORD;
                while (end < length && isLetter(tape[end])) {
                    end++;
                }
            } else if (isDigit(first)) {
                value = 0;
                while (end < length && isDigit(tape[end])) {
                    value = end - start < DIGITS_AT_MOST ? value * 10 + tape[end] - '0' : value;
                    end++;
                }
                kind = end - start > DIGITS_AT_MOST ? BAD : NUMBER;
            } else {
                end = start + 1;
                kind = first == ';' || first == '<' || first == '>' || first == '=' ? SIGN : BAD;
            }
        }

        private static boolean isBlank(int c) {
            return c == 10 || c == 32;
        }

        private static boolean isLetter(int c) {
            return c >= 'a' && c <= 'z';
        }

        private static boolean isDigit(int c) {
            return c >= '0' && c <= '9';
        }

        boolean atEnd() {
            return kind == END;
        }

        boolean isSign(char sign) {
            return kind == SIGN && start < length && tape[start] == sign;
        }

        boolean isWord(String word) {
            if (kind != WORD || end - start != word.length() || end > length) {
                return false;
            }
            for (int i = start; i < end; i++) {
                if (tape[i] != word.charAt(i - start)) {
                    return false;
                }
            }
            return true;
        }

        /** Which word of a list, with a blank behind each, stands here: counted from 1, 0 if none does. */
        int wordAmong(String list) {
            int which = 1;
            int at = start;
            boolean alike = kind == WORD;
            for (int i = 0; i < list.length(); i++) {
                char c = list.charAt(i);
                if (c != ' ') {
                    alike = alike && at < end && tape[at] == c;
                    at++;
                } else if (alike && at == end) {
                    return which;
                } else {
                    which++;
                    at = start;
                    alike = kind == WORD;
                }
            }
            return 0;
        }

        boolean takeSign(char sign) {
            if (!isSign(sign)) {
                return blame(CANT_STAND);
            }
            advance();
            return true;
        }

        boolean takeWord(String word) {
            if (!isWord(word)) {
                return blame(CANT_STAND);
            }
            advance();
            return true;
        }

        /** Whether a NUMBER within bounds stands here; it is not gone past, for more may be asked of it. */
        boolean seesNumber(int least, int most) {
            if (kind != NUMBER) {
                return blame(CANT_STAND);
            }
            return value >= least && value <= most || blame(BAD_NUMBER);
        }

        /** Tells a FAULT of this TOKEN; what can't begin one has no other. */
        boolean blame(int fault) {
            faultKind = kind == BAD ? CANT_BEGIN : fault;
            faultPlace = kind == END ? length : start;
            return false;
        }

        boolean praise() {
            faultKind = 0;
            faultPlace = NONE;
            return true;
        }
    }

    /** A SCRIPT, each STEP and each end as six numbers: what it does, four that go with it, its other end. */
    private static final class Script {
        static final int SWAP = 1;
        static final int SCALE = 2;
        static final int ADD = 3;
        static final int KEEP = 4;
        static final int TAKE = 5;
        static final int SUM = 6;
        static final int WHEN = 7;
        static final int LOOP = 8;
        static final int STOP = 9;
        static final int END = 10;
        static final int LAWFUL = 1;
        static final int ABELIAN = 2;
        static final int NILPOTENT = 3;
        static final int SOLVABLE = 4;
        static final int DERIVED = 5;
        static final int SIZE = 6;
        static final int SAME = 7;
        static final int PARTNER = 5;
        // In the order of the numbers above, from 1 on.
        private static final String STEP_WORDS = "swap scale add keep take sum when loop stop ";
        private static final String TEST_WORDS = "lawful abelian nilpotent solvable derived size same ";
        static final int LINES_AT_MOST = 60;
        private static final int STRIDE = 6;
        private static final int STEPS_TOLD_AT_MOST = 30;
        private static final int DEPTH_AT_MOST = 3;

        boolean there;
        int steps;
        int lines;
        private final int[] code = new int[LINES_AT_MOST * STRIDE];
        private final int[] open = new int[DEPTH_AT_MOST];
        private int depth;

        void copyFrom(Script other) {
            there = other.there;
            steps = other.steps;
            lines = other.lines;
            System.arraycopy(other.code, 0, code, 0, code.length);
        }

        int get(int line, int which) {
            return line >= 0 && line < LINES_AT_MOST && which >= 0 && which < STRIDE ? code[line * STRIDE + which] : 0;
        }

        private void set(int line, int which, int v) {
            if (line >= 0 && line < LINES_AT_MOST && which >= 0 && which < STRIDE) {
                code[line * STRIDE + which] = v;
            }
        }

        boolean readFrom(Tokens t) {
            there = true;
            steps = 0;
            lines = 0;
            depth = 0;
            Arrays.fill(code, 0);
            for (int turn = 0; turn < SCRIPT_ROOM && !t.atEnd(); turn++) {
                boolean good = t.isWord("end") ? readEnd(t) : readStep(t);
                if (!good) {
                    return false;
                }
            }
            return depth > 0 ? t.blame(Tokens.CANT_STAND) : t.praise();
        }

        private boolean readEnd(Tokens t) {
            if (depth < 1) {
                return t.blame(Tokens.CANT_STAND);
            }
            depth--;
            set(lines, 0, END);
            set(lines, PARTNER, open[depth]);
            set(open[depth], PARTNER, lines);
            lines++;
            t.advance();
            return t.takeSign(';');
        }

        private boolean readStep(Tokens t) {
            int what = t.wordAmong(STEP_WORDS);
            if (what == 0) {
                return t.blame(Tokens.CANT_STAND);
            }
            if (steps >= STEPS_TOLD_AT_MOST) {
                return t.blame(Tokens.TOO_LONG);
            }
            boolean opens = what == WHEN || what == LOOP;
            if (opens && depth >= DEPTH_AT_MOST) {
                return t.blame(Tokens.TOO_DEEP);
            }
            t.advance();
            set(lines, 0, what);
            boolean good = what == WHEN ? readTest(t) : readRest(t, what);
            if (!good || !t.takeSign(';')) {
                return false;
            }
            if (opens) {
                open[depth] = lines;
                depth++;
            }
            steps++;
            lines++;
            return true;
        }

        private boolean readRest(Tokens t, int what) {
            switch (what) {
                case SWAP:
                    return number(t, 1, 0, WIDE - 1) && number(t, 2, 0, WIDE - 1);
                case SCALE:
                    return number(t, 1, 0, WIDE - 1) && t.takeWord("by") && number(t, 2, 1, 6);
                case ADD:
                    return number(t, 1, 0, 6) && t.takeWord("of") && number(t, 2, 0, WIDE - 1)
                            && t.takeWord("to") && number(t, 3, 0, WIDE - 1);
                case KEEP:
                case TAKE:
                case SUM:
                    return number(t, 1, 0, SHELVES - 1);
                case LOOP:
                    return number(t, 1, 1, 99);
                default:
                    return true;
            }
        }

        private boolean number(Tokens t, int which, int least, int most) {
            if (!t.seesNumber(least, most)) {
                return false;
            }
            set(lines, which, t.value);
            t.advance();
            return true;
        }

        private boolean readTest(Tokens t) {
            int test = t.wordAmong(TEST_WORDS);
            if (test == 0) {
                return t.blame(Tokens.CANT_STAND);
            }
            set(lines, 1, test);
            t.advance();
            switch (test) {
                case DERIVED:
                    return number(t, 2, 0, WIDE) && readCompares(t) && number(t, 4, 0, WIDE);
                case SIZE:
                    return readCompares(t) && number(t, 4, 0, WIDE);
                case SAME:
                    return number(t, 2, 0, SHELVES - 1);
                default:
                    return true;
            }
        }

        /** Held as what compare() of two numbers gives where it is so. */
        private boolean readCompares(Tokens t) {
            if (t.isSign('<')) {
                set(lines, 3, -1);
            } else if (t.isSign('>')) {
                set(lines, 3, 1);
            } else if (t.isSign('=')) {
                set(lines, 3, 0);
            } else {
                return t.blame(Tokens.CANT_STAND);
            }
            t.advance();
            return true;
        }
    }

    /** All that a MARK keeps. */
    private static final class Desk {
        final World world = new World();
        final World[] shelves = new World[SHELVES];
        final Script script = new Script();

        Desk() {
            for (int i = 0; i < SHELVES; i++) {
                shelves[i] = new World();
            }
        }

        void copyFrom(Desk other) {
            world.copyFrom(other.world);
            script.copyFrom(other.script);
            for (int i = 0; i < SHELVES; i++) {
                shelves[i].copyFrom(other.shelves[i]);
                shelves[i].held = other.shelves[i].held;
            }
        }

        boolean putOn(int shelf) {
            if (shelf < 0 || shelf >= SHELVES) {
                return false;
            }
            shelves[shelf].copyFrom(world);
            shelves[shelf].held = true;
            return true;
        }

        boolean holdsOn(int shelf) {
            return shelf >= 0 && shelf < SHELVES && shelves[shelf].held;
        }

        int heldSet() {
            int all = 0;
            for (int i = 0; i < SHELVES; i++) {
                all |= shelves[i].held ? 1 << i : 0;
            }
            return all;
        }
    }

    /** Does SCRIPTS. */
    private static final class Runner {
        boolean hasRun;
        int steps;
        int missed;
        int left;
        private final int[] turns = new int[Script.LINES_AT_MOST];

        void perform(Desk desk, Anatomy anatomy, MapSearch search, Workshop workshop) {
            Script script = desk.script;
            hasRun = true;
            steps = 0;
            missed = 0;
            left = 0;
            int line = 0;
            for (int turn = 0; turn < FAR_ABOVE && line >= 0 && line < script.lines; turn++) {
                int what = script.get(line, 0);
                if (what == Script.END) {
                    line = behindEnd(script, line);
                    continue;
                }
                if (steps >= STEPS_AT_MOST) {
                    left = 1;
                    return;
                }
                steps++;
                if (what == Script.STOP) {
                    return;
                }
                if (what == Script.LOOP) {
                    turns[line] = script.get(line, 1);
                } else if (what == Script.WHEN) {
                    if (!isSo(desk, line, anatomy, search)) {
                        line = script.get(line, Script.PARTNER);
                    }
                } else if (!isDone(desk, line, workshop)) {
                    missed++;
                }
                line++;
            }
        }

        private int behindEnd(Script script, int line) {
            int begin = script.get(line, Script.PARTNER);
            boolean loops = begin >= 0 && begin < turns.length && script.get(begin, 0) == Script.LOOP;
            if (loops && turns[begin] > 1) {
                turns[begin]--;
                return begin + 1;
            }
            return line + 1;
        }

        private static boolean isSo(Desk desk, int line, Anatomy anatomy, MapSearch search) {
            World w = desk.world;
            Script script = desk.script;
            int first = script.get(line, 2);
            int wanted = script.get(line, 3);
            int second = script.get(line, 4);
            switch (script.get(line, 1)) {
                case Script.LAWFUL:
                    return w.firstBreak() < 0;
                case Script.ABELIAN:
                    return w.countCells() == 0;
                case Script.NILPOTENT:
                    return anatomy.wholeSeries(w, WIDE, true) == 0;
                case Script.SOLVABLE:
                    return anatomy.wholeSeries(w, WIDE, false) == 0;
                case Script.DERIVED:
                    return Integer.compare(anatomy.wholeSeries(w, first, false), second) == wanted;
                case Script.SIZE:
                    return Integer.compare(w.size, second) == wanted;
                default:
                    return desk.holdsOn(first) && search.look(w, desk.shelves[first], true);
            }
        }

        private static boolean isDone(Desk desk, int line, Workshop workshop) {
            World w = desk.world;
            int a = desk.script.get(line, 1);
            int b = desk.script.get(line, 2);
            switch (desk.script.get(line, 0)) {
                case Script.SWAP:
                    return workshop.laySwap(w, a, b) && workshop.changeBase(w);
                case Script.SCALE:
                    return workshop.layScale(w, a, b) && workshop.changeBase(w);
                case Script.ADD:
                    return workshop.layAdd(w, a, b, desk.script.get(line, 3)) && workshop.changeBase(w);
                case Script.KEEP:
                    return desk.putOn(a);
                case Script.TAKE:
                    if (desk.holdsOn(a)) {
                        w.copyFrom(desk.shelves[a]);
                        return true;
                    }
                    return false;
                default:
                    return desk.holdsOn(a) && workshop.join(w, desk.shelves[a]) == FINE;
            }
        }
    }
}
