/** The promises one by one: ordinary inputs, the edges that the document names, wrong inputs. */
public final class PromisesTest {
    private static final int LOW = Integer.MIN_VALUE;
    private static final int HIGH = Integer.MAX_VALUE;

    // Worlds whose numbers can be reckoned by hand.
    private static final String HEISENBERG = "prime 3; size 3; bracket 0 1 gives 1 of 2;";
    private static final String AFFINE = "prime 5; size 2; bracket 0 1 gives 1 of 1;";
    private static final String SIMPLE =
            "prime 5; size 3; bracket 0 1 gives 1 of 2; bracket 0 2 gives less 2 of 0; bracket 1 2 gives 2 of 1;";
    private static final String BROKEN = "prime 3; size 3; bracket 0 1 gives 1 of 2; bracket 0 2 gives 1 of 0;";

    public static void main(String[] args) {
        newObject();
        statusAndFraction();
        trays();
        pouring();
        feeding();
        worldTexts();
        worldFaults();
        scriptTexts();
        scriptFaults();
        tables();
        laws();
        shelves();
        spans();
        series();
        kinds();
        radicals();
        parts();
        vectors();
        derivations();
        classes();
        maps();
        partings();
        changes();
        squeezes();
        bars();
        growth();
        sums();
        rests();
        takings();
        allTables();
        scripts();
        scriptLimits();
        marks();
        Hand.end("PromisesTest");
    }

    private static void newObject() {
        Hand.about("promise 1");
        BracketRoom r = new BracketRoom();
        Hand.due("status()", r.status(), 0);
        Hand.due("top()", r.top(), 0);
        Hand.due("bottom()", r.bottom(), 1);
        Hand.due("fault(0)", r.fault(0), -1);
        Hand.due("fault(1)", r.fault(1), -1);
        for (int tray = 0; tray < 4; tray++) {
            Hand.refused(r, "read(tray, 0)", r.read(tray, 0), 3);
        }
        Hand.granted(r, "many(0)", r.many(0), 2);
        Hand.granted(r, "many(1)", r.many(1), 1);
        Hand.granted(r, "many(2)", r.many(2), 0);
        Hand.granted(r, "many(3)", r.many(3), 0);
        Hand.refused(r, "run()", r.run(), 8);
        Hand.refused(r, "ran(0)", r.ran(0), 8);
        Hand.refused(r, "tries()", r.tries(), 8);
        Hand.refused(r, "back()", r.back(), 8);
        Hand.refused(r, "world(1)", r.world(1), 5);
        Hand.due("NONE", BracketRoom.NONE, -1);
    }

    private static void statusAndFraction() {
        Hand.about("promises 2 to 4, 29");
        BracketRoom r = Hand.room(HEISENBERG);
        r.many(9);
        Hand.due("status()", r.status(), 5);
        Hand.due("status() again", r.status(), 5);
        r.fault(0);
        r.feed(0x20202020, 0x20202020, 0x20202020, 0x20202020, 0x20202020);
        r.top();
        r.bottom();
        Hand.due("status() behind calls that have none", r.status(), 5);
        Hand.granted(r, "share()", r.share());
        // 0; all 13 lines; the 4 planes that hold the centre; all: of 1, 13, 13, 1.
        Hand.due("top()", r.top(), 19);
        Hand.due("bottom()", r.bottom(), 28);
        r.many(9);
        Hand.due("top() behind another call", r.top(), 19);
        r.script(0);
        Hand.world(r, "prime 2; size 5;");
        r.share();
        Hand.due("top() where all spans are parts", r.top(), 1);
        Hand.due("bottom() where all spans are parts", r.bottom(), 1);
        r.mark();
        Hand.world(r, HEISENBERG);
        r.share();
        r.back();
        Hand.due("top() is not taken back", r.top(), 19);
    }

    private static void trays() {
        Hand.about("promises 5 to 7");
        BracketRoom r = new BracketRoom();
        Hand.refused(r, "tray(-1, 0, 1)", r.tray(-1, 0, 1), 1);
        Hand.refused(r, "tray(4, 0, 1)", r.tray(4, 0, 1), 1);
        Hand.refused(r, "tray(0, -1, 1)", r.tray(0, -1, 1), 1);
        Hand.refused(r, "tray(0, 4, 61)", r.tray(0, 4, 61), 1);
        Hand.refused(r, "tray(0, 0, 61)", r.tray(0, 0, 61), 5);
        Hand.refused(r, "tray(0, 0, HIGH)", r.tray(0, 0, HIGH), 5);
        Hand.refused(r, "tray(0, 0, -1)", r.tray(0, 0, -1), 6);
        Hand.refused(r, "tray(0, 0, LOW)", r.tray(0, 0, LOW), 6);
        Hand.refused(r, "read(0, 0)", r.read(0, 0), 3);
        Hand.granted(r, "tray(0, 0, 0)", r.tray(0, 0, 0));
        Hand.refused(r, "write(0, 0, 1)", r.write(0, 0, 1), 4);
        Hand.granted(r, "tray(3, 3, 60)", r.tray(3, 3, 60));
        Hand.granted(r, "write(3, 59, 7)", r.write(3, 59, 7));
        Hand.granted(r, "read(3, 59)", r.read(3, 59), 7);
        Hand.refused(r, "read(3, 60)", r.read(3, 60), 4);
        Hand.refused(r, "read(3, -1)", r.read(3, -1), 4);
        Hand.refused(r, "write(3, 60, 1)", r.write(3, 60, 1), 4);
        Hand.refused(r, "write(-1, 0, 1)", r.write(-1, 0, 1), 1);
        Hand.refused(r, "write(4, 0, 1)", r.write(4, 0, 1), 1);
        Hand.refused(r, "write(1, 0, 1)", r.write(1, 0, 1), 3);
        Hand.refused(r, "read(9, 0)", r.read(9, 0), 1);
        long v = 0x123456789ABCDEF0L;
        long[] cuts = {(byte) v, (short) v, (int) v, v};
        for (int sort = 0; sort < 4; sort++) {
            r.tray(1, sort, 2);
            r.write(1, 1, v);
            Hand.granted(r, "read() of sort " + sort, r.read(1, 1), cuts[sort]);
            r.write(1, 1, -1);
            Hand.granted(r, "read() of -1", r.read(1, 1), -1);
            Hand.granted(r, "read() of the other", r.read(1, 0), 0);
        }
        r.write(1, 0, 128);
        r.tray(1, 0, 2);
        Hand.granted(r, "read() of a tray made anew", r.read(1, 0), 0);
        r.write(1, 0, 128);
        Hand.granted(r, "read() of 128 in 8 bits", r.read(1, 0), -128);
        r.tray(1, 0, 61);
        Hand.granted(r, "read() behind a refused tray()", r.read(1, 0), -128);
    }

    private static void pouring() {
        Hand.about("promise 8");
        BracketRoom r = new BracketRoom();
        Hand.fill(r, 0, 1, 1, 2, 3, 4, 5);
        Hand.fill(r, 1, 1, 9, 9, 9);
        Hand.fill(r, 2, 2, 9);
        Hand.granted(r, "pour(0, 0, 0, 1, 4)", r.pour(0, 0, 0, 1, 4));
        long[] moved = {1, 1, 2, 3, 4};
        for (int i = 0; i < 5; i++) {
            Hand.due("read(0, " + i + ")", r.read(0, i), moved[i]);
        }
        Hand.granted(r, "pour(0, 2, 1, 1, 2)", r.pour(0, 2, 1, 1, 2));
        Hand.due("read(1, 0)", r.read(1, 0), 9);
        Hand.due("read(1, 1)", r.read(1, 1), 2);
        Hand.due("read(1, 2)", r.read(1, 2), 3);
        Hand.granted(r, "pour(0, 5, 1, 3, 0)", r.pour(0, 5, 1, 3, 0));
        Hand.refused(r, "pour(4, 0, 3, 0, 1)", r.pour(4, 0, 3, 0, 1), 1);
        Hand.refused(r, "pour(0, 0, -1, 0, 1)", r.pour(0, 0, -1, 0, 1), 1);
        Hand.refused(r, "pour(3, 0, 2, 0, -1)", r.pour(3, 0, 2, 0, -1), 3);
        Hand.refused(r, "pour(2, 0, 3, 0, -1)", r.pour(2, 0, 3, 0, -1), 3);
        Hand.refused(r, "pour(0, 0, 2, 0, -1)", r.pour(0, 0, 2, 0, -1), 11);
        Hand.refused(r, "pour(0, -1, 1, 0, -1)", r.pour(0, -1, 1, 0, -1), 6);
        Hand.refused(r, "pour(0, -1, 1, 0, 1)", r.pour(0, -1, 1, 0, 1), 4);
        Hand.refused(r, "pour(0, 0, 1, -1, 1)", r.pour(0, 0, 1, -1, 1), 4);
        Hand.refused(r, "pour(0, 2, 1, 0, 4)", r.pour(0, 2, 1, 0, 4), 4);
        Hand.refused(r, "pour(0, 0, 1, 1, 3)", r.pour(0, 0, 1, 1, 3), 4);
        Hand.refused(r, "pour(0, HIGH, 1, 0, HIGH)", r.pour(0, HIGH, 1, 0, HIGH), 4);
        Hand.refused(r, "pour(0, 1, 1, 0, HIGH)", r.pour(0, 1, 1, 0, HIGH), 4);
        Hand.due("read(1, 1) behind refusals", r.read(1, 1), 2);
        r.tray(3, 1, 0);
        Hand.granted(r, "pour(3, 0, 1, 0, 0) of an empty tray", r.pour(3, 0, 1, 0, 0));
        Hand.granted(r, "pour(1, 3, 3, 0, 0) to an empty tray", r.pour(1, 3, 3, 0, 0));
        Hand.refused(r, "pour(1, 0, 3, 0, 1)", r.pour(1, 0, 3, 0, 1), 4);
    }

    private static void feeding() {
        Hand.about("promise 9");
        BracketRoom r = new BracketRoom();
        for (int i = 1; i <= 30; i++) {
            Hand.due("feed()", r.feed(0x20202020, 0x20202020, 0x20202020, 0x20202020, 0x20202020), 20L * i);
        }
        Hand.due("feed() beyond 600", r.feed(0, 0, 0, 0, 0), -1);
        Hand.due("status()", r.status(), 0);
        Hand.refused(r, "world(601)", r.world(601), 5);
        Hand.refused(r, "script(301)", r.script(301), 5);
        Hand.due("fault(0) behind 5", r.fault(0), -1);
        Hand.refused(r, "world(600) of blanks", r.world(600), 10);
        Hand.due("fault(0)", r.fault(0), 2);
        Hand.due("fault(1)", r.fault(1), 600);
        Hand.due("feed() on the tape that is empty then", r.feed(0, 0, 0, 0, 0), 20);
        Hand.refused(r, "script(20)", r.script(20), 10);
        Hand.due("fault(0)", r.fault(0), 1);
        Hand.due("fault(1)", r.fault(1), 0);
        // The bytes stand in the ints from the highest to the lowest.
        r.feed('p' << 24 | 'r' << 16 | 'i' << 8 | 'm', 'e' << 24 | '7' << 16 | ';' << 8 | 's',
                'i' << 24 | 'z' << 16 | 'e' << 8 | '3', ';' << 24 | 0xFFFFFF, -1);
        Hand.granted(r, "world(13)", r.world(13), 3);
        Hand.refused(r, "world(-1)", r.world(-1), 5);
        Hand.granted(r, "many(0)", r.many(0), 7);
    }

    private static void worldTexts() {
        Hand.about("promises 10, 12, 13");
        BracketRoom r = new BracketRoom();
        Hand.granted(r, "world()", Hand.world(r, SIMPLE), 3);
        Hand.due("fault(0)", r.fault(0), 0);
        Hand.due("fault(1)", r.fault(1), -1);
        Hand.due("fault(2)", r.fault(2), -1);
        Hand.due("fault(-1)", r.fault(-1), -1);
        Hand.granted(r, "many(0)", r.many(0), 5);
        Hand.granted(r, "many(1)", r.many(1), 3);
        Hand.granted(r, "many(2)", r.many(2), 3);
        Hand.granted(r, "constant(0, 2, 0)", r.constant(0, 2, 0), 3);
        Hand.refused(r, "many(-1)", r.many(-1), 5);
        Hand.refused(r, "many(4)", r.many(4), 5);
        String tight = "prime0003;size04;bracket 0 3gives 1of0 less2of 1\n1 of 3;bracket 1 2gives less 1of3;";
        Hand.granted(r, "world() without blanks", Hand.world(r, tight), 4);
        Hand.due("many(2)", r.many(2), 4);
        Hand.due("constant(0, 3, 0)", r.constant(0, 3, 0), 1);
        Hand.due("constant(0, 3, 1)", r.constant(0, 3, 1), 1);
        Hand.due("constant(0, 3, 3)", r.constant(0, 3, 3), 1);
        Hand.due("constant(1, 2, 3)", r.constant(1, 2, 3), 2);
        int[][] greatest = {{2, 5}, {3, 5}, {5, 4}, {7, 3}};
        for (int[] g : greatest) {
            Hand.granted(r, "world() of " + g[0], Hand.world(r, "prime " + g[0] + ";size " + g[1] + ";"), g[1]);
            Hand.refused(r, "world() too great", Hand.world(r, "prime " + g[0] + ";size " + (g[1] + 1) + ";"), 10);
            Hand.due("fault(0)", r.fault(0), 4);
            Hand.due("fault(1)", r.fault(1), 13);
            Hand.due("many(1), the old one's", r.many(1), g[1]);
        }
        Hand.feed(r, "prime 2; size 1; rubbish");
        Hand.granted(r, "world(16) of a longer tape", r.world(16), 1);
        Hand.refused(r, "world(1) of the tape that is empty then", r.world(1), 5);
        Hand.due("fault(0) behind 5", r.fault(0), 0);
        Hand.feed(r, "prime 2; size 12; ");
        Hand.refused(r, "world(15), which ends within a number", r.world(15), 10);
        Hand.due("fault(0)", r.fault(0), 2);
        Hand.due("fault(1)", r.fault(1), 15);
        Hand.feed(r, "stops;");
        Hand.refused(r, "script(4), which ends within a word", r.script(4), 10);
        Hand.due("fault(0)", r.fault(0), 2);
        Hand.due("fault(1)", r.fault(1), 4);
        r.keep(1);
        Hand.script(r, "stop;");
        Hand.world(r, AFFINE);
        Hand.due("many(3): shelves stay", r.many(3), 2);
        Hand.due("run(): the script stays", r.run(), 1);
    }

    private static void worldFault(String text, int kind, int place) {
        BracketRoom r = Hand.room(AFFINE);
        Hand.refused(r, "world() of " + text, Hand.world(r, text), 10);
        Hand.due("fault(0) of " + text, r.fault(0), kind);
        Hand.due("fault(1) of " + text, r.fault(1), place);
        Hand.due("many(0) behind " + text, r.many(0), 5);
        Hand.due("constant(0, 1, 1) behind " + text, r.constant(0, 1, 1), 1);
    }

    private static void worldFaults() {
        Hand.about("promises 10, 12: faults");
        worldFault("", 2, 0);
        worldFault("  ", 2, 2);
        worldFault("prime", 2, 5);
        worldFault("prime 5", 2, 7);
        worldFault("prime 5; size 3", 2, 15);
        worldFault("Prime 5;", 1, 0);
        worldFault("prime\t5;", 1, 5);
        worldFault("prime " + (char) 233 + ";", 1, 6);
        worldFault("prime 00005;", 1, 6);
        worldFault("prime 9999;", 4, 6);
        worldFault("primes 5;", 2, 0);
        worldFault("prime;", 2, 5);
        worldFault("prime 1;", 4, 6);
        worldFault("prime 5 size 2;", 2, 8);
        worldFault("prime 5 @", 1, 8);
        worldFault("prime 5; size 2; gives", 2, 17);
        worldFault("prime 5; size 2; bracket 2 0", 4, 25);
        worldFault("prime 5; size 2; bracket 1 1", 4, 27);
        worldFault("prime 5; size 2; bracket 0 2", 4, 27);
        worldFault("prime 5; size 3; bracket 1 0", 4, 27);
        worldFault("prime 5; size 1; bracket 0 1 gives", 4, 27);
        worldFault("prime 5; size 2; bracket 0 1 gives;", 2, 34);
        worldFault("prime 5; size 2; bracket 0 1 gives 0 of 1;", 4, 35);
        worldFault("prime 5; size 2; bracket 0 1 gives 5 of 1;", 4, 35);
        worldFault("prime 5; size 2; bracket 0 1 gives less less 1 of 1;", 2, 40);
        worldFault("prime 5; size 2; bracket 0 1 gives 1 1;", 2, 37);
        worldFault("prime 5; size 2; bracket 0 1 gives 1 of 2;", 4, 40);
        worldFault("prime 5; size 2; bracket 0 1 gives 1 of 1 less;", 2, 46);
        worldFault("prime 5; size 2; bracket 0 1 gives 1 of 1 2 of 1;", 5, 47);
        worldFault("prime 5; size 2; bracket 0 1 gives 1 of 1; bracket 0 1 gives 1 of 0;", 5, 53);
        worldFault("prime 5; size 2; bracket 0 1 gives 1 of 1", 2, 41);
        worldFault("prime 5; size 2; bracket 0 1 gives 1 of 1 <", 2, 42);
        worldFault("prime 5; size 2;;", 2, 16);
        // The first along the text counts, not the least.
        worldFault("prime 4; #", 4, 6);
        worldFault("size 2; #", 2, 0);
    }

    private static void scriptTexts() {
        Hand.about("promise 11");
        BracketRoom r = new BracketRoom();
        Hand.granted(r, "script(0)", r.script(0), 0);
        Hand.granted(r, "run() of an empty one", r.run(), 0);
        String all = "swap 0 4;scale 4by 6;add 0of 0to 4;keep 3;take 0;sum 3;when lawful;end;when abelian;end;"
                + "when nilpotent;end;when solvable;end;when derived 5<5;end;when derived 0>0;end;when size=5;end;"
                + "when same 3;end;loop 99;end;stop;";
        Hand.granted(r, "script() of all steps", Hand.script(r, all), 16);
        Hand.due("fault(0)", r.fault(0), 0);
        Hand.due("fault(1)", r.fault(1), -1);
        Hand.granted(r, "script() of three deep", Hand.script(r, "loop 1;when lawful;loop 1;stop;end;end;end;"), 4);
        Hand.granted(r, "script() of 30", Hand.script(r, "stop;".repeat(30)), 30);
        Hand.feed(r, " ".repeat(320));
        Hand.refused(r, "script(301)", r.script(301), 5);
        Hand.refused(r, "script(-1)", r.script(-1), 5);
        Hand.granted(r, "script(300)", r.script(300), 0);
        Hand.refused(r, "script(1) of an empty tape", r.script(1), 5);
    }

    private static void scriptFault(String text, int kind, int place) {
        BracketRoom r = new BracketRoom();
        Hand.script(r, "keep 1; keep 2;");
        Hand.refused(r, "script() of " + text, Hand.script(r, text), 10);
        Hand.due("fault(0) of " + text, r.fault(0), kind);
        Hand.due("fault(1) of " + text, r.fault(1), place);
        Hand.due("run() of the old one behind " + text, r.run(), 2);
    }

    private static void scriptFaults() {
        Hand.about("promises 11, 12: faults");
        scriptFault("go;", 2, 0);
        scriptFault("Swap 0 1;", 1, 0);
        scriptFault("swap 0 00001;", 1, 7);
        scriptFault("swap 0;", 2, 6);
        scriptFault("swap 5 0;", 4, 5);
        scriptFault("swap 0 5;", 4, 7);
        scriptFault("swap 0 1", 2, 8);
        scriptFault("scale 0 2;", 2, 8);
        scriptFault("scale 5 by 2;", 4, 6);
        scriptFault("scale 0 by 0;", 4, 11);
        scriptFault("scale 0 by 7;", 4, 11);
        scriptFault("add 7 of 0 to 1;", 4, 4);
        scriptFault("add 1 of 5 to 1;", 4, 9);
        scriptFault("add 1 of 0 to 5;", 4, 14);
        scriptFault("add 1 to 0 of 5;", 2, 6);
        scriptFault("keep 4;", 4, 5);
        scriptFault("take 4;", 4, 5);
        scriptFault("sum 4;", 4, 4);
        scriptFault("loop 0;end;", 4, 5);
        scriptFault("loop 100;end;", 4, 5);
        scriptFault("when simple;end;", 2, 5);
        scriptFault("when derived 6<0;end;", 4, 13);
        scriptFault("when derived 0<6;end;", 4, 15);
        scriptFault("when derived 0;end;", 2, 14);
        scriptFault("when size>6;end;", 4, 10);
        scriptFault("when size 5;end;", 2, 10);
        scriptFault("when same 4;end;", 4, 10);
        scriptFault("when lawful;", 2, 12);
        scriptFault("loop 2; stop; ", 2, 14);
        scriptFault("end;", 2, 0);
        scriptFault("loop 2;end;end;", 2, 11);
        scriptFault("loop 2;end", 2, 10);
        scriptFault("prime 2;", 2, 0);
        String thirty = "stop;".repeat(30);
        scriptFault(thirty + "stop;", 6, 150);
        scriptFault(thirty + "go;", 2, 150);
        scriptFault(thirty + "!", 1, 150);
        scriptFault(thirty + "end;", 2, 150);
        String deep = "loop 1;when lawful;loop 1;";
        scriptFault(deep + "loop 1;end;end;end;end;", 7, 26);
        scriptFault(deep + "when go", 7, 26);
        scriptFault(deep + "stop;".repeat(27) + "loop 1;", 6, 26 + 135);
    }

    private static void tables() {
        Hand.about("promises 14 to 16");
        BracketRoom r = Hand.room(SIMPLE);
        Hand.granted(r, "constant(0, 1, 2)", r.constant(0, 1, 2), 1);
        Hand.granted(r, "constant(1, 0, 2)", r.constant(1, 0, 2), 4);
        Hand.granted(r, "constant(2, 2, 2)", r.constant(2, 2, 2), 0);
        for (int bad : new int[] {-1, 3, LOW, HIGH}) {
            Hand.refused(r, "constant(bad, 0, 0)", r.constant(bad, 0, 0), 2);
            Hand.refused(r, "constant(0, bad, 0)", r.constant(0, bad, 0), 2);
            Hand.refused(r, "constant(0, 0, bad)", r.constant(0, 0, bad), 2);
            Hand.refused(r, "put(bad, 1, 0, 9)", r.put(bad, 1, 0, 9), 2);
            Hand.refused(r, "put(0, bad, 0, 9)", r.put(0, bad, 0, 9), 2);
            Hand.refused(r, "put(1, 0, bad, 9)", r.put(1, 0, bad, 9), 2);
        }
        Hand.refused(r, "put(0, 1, 0, -1)", r.put(0, 1, 0, -1), 5);
        Hand.refused(r, "put(0, 1, 0, 5)", r.put(0, 1, 0, 5), 5);
        Hand.refused(r, "put(1, 0, 0, 1)", r.put(1, 0, 0, 1), 5);
        Hand.refused(r, "put(1, 1, 0, 1)", r.put(1, 1, 0, 1), 5);
        Hand.granted(r, "put(1, 2, 0, 4)", r.put(1, 2, 0, 4));
        Hand.due("constant(1, 2, 0)", r.constant(1, 2, 0), 4);
        Hand.due("constant(2, 1, 0)", r.constant(2, 1, 0), 1);
        Hand.due("many(2)", r.many(2), 4);
        Hand.granted(r, "put(1, 2, 0, 0)", r.put(1, 2, 0, 0));
        Hand.due("constant(2, 1, 0)", r.constant(2, 1, 0), 0);
        // e, f, h are 1, 5, 25: of e and 2f and 3h with e and h.
        Hand.granted(r, "bracket(1, 5)", r.bracket(1, 5), 25);
        Hand.granted(r, "bracket(5, 1)", r.bracket(5, 1), 100);
        // [e + 2f + 3h, e + h] = -2e - 2h + 4f + 6e = 4e + 4f + 3h
        Hand.granted(r, "bracket(86, 26)", r.bracket(1 + 10 + 75, 26), 4 + 20 + 75);
        Hand.granted(r, "bracket(124, 124)", r.bracket(124, 124), 0);
        Hand.refused(r, "bracket(125, 0)", r.bracket(125, 0), 2);
        Hand.refused(r, "bracket(0, -1)", r.bracket(0, -1), 2);
        Hand.refused(r, "bracket(0, HIGH)", r.bracket(0, HIGH), 2);
    }

    private static void laws() {
        Hand.about("promises 17, 18");
        BracketRoom r = Hand.room(BROKEN);
        Hand.granted(r, "lawful()", r.lawful(), 0);
        for (int what = 0; what < 3; what++) {
            Hand.granted(r, "failing(" + what + ")", r.failing(what), what);
        }
        Hand.refused(r, "failing(3)", r.failing(3), 5);
        Hand.refused(r, "failing(-1)", r.failing(-1), 5);
        r.put(0, 2, 0, 0);
        Hand.granted(r, "lawful()", r.lawful(), 1);
        Hand.refused(r, "failing(0)", r.failing(0), 8);
        Hand.refused(r, "failing(3)", r.failing(3), 5);
        // [1, [3, 4]] = 2 breaks for 1, 3, 4 first; 2, 3, 4 is behind it.
        Hand.world(r, "prime 2; size 5; bracket 3 4 gives 1 of 0; bracket 0 1 gives 1 of 2; bracket 0 2 gives 1 of 1;");
        Hand.granted(r, "lawful()", r.lawful(), 0);
        Hand.granted(r, "failing(0)", r.failing(0), 1);
        Hand.granted(r, "failing(1)", r.failing(1), 3);
        Hand.granted(r, "failing(2)", r.failing(2), 4);
        Hand.world(r, "prime 7; size 2; bracket 0 1 gives 3 of 0 5 of 1;");
        Hand.granted(r, "lawful() of two", r.lawful(), 1);
    }

    private static void shelves() {
        Hand.about("promises 19, 20");
        BracketRoom r = Hand.room(HEISENBERG);
        for (int bad : new int[] {-1, 4, LOW, HIGH}) {
            Hand.refused(r, "keep(bad)", r.keep(bad), 2);
            Hand.refused(r, "take(bad)", r.take(bad), 2);
        }
        Hand.refused(r, "take(3)", r.take(3), 8);
        Hand.granted(r, "keep(3)", r.keep(3));
        Hand.due("many(3)", r.many(3), 8);
        Hand.due("many(1)", r.many(1), 3);
        r.put(0, 1, 2, 2);
        Hand.granted(r, "take(3)", r.take(3));
        Hand.due("constant(0, 1, 2)", r.constant(0, 1, 2), 1);
        Hand.world(r, AFFINE);
        r.keep(0);
        Hand.due("many(3)", r.many(3), 9);
        r.take(3);
        Hand.due("many(0)", r.many(0), 3);
        r.put(0, 1, 0, 1);
        r.take(3);
        Hand.due("constant(0, 1, 0) of the shelf's own", r.constant(0, 1, 0), 0);
        r.take(0);
        Hand.due("many(0)", r.many(0), 5);
        Hand.due("many(3) still", r.many(3), 9);
    }

    private static void spans() {
        Hand.about("promise 21");
        BracketRoom r = Hand.room(SIMPLE);
        Hand.refused(r, "span(4, 21, 9)", r.span(4, 21, 9), 1);
        Hand.refused(r, "span(0, 21, 9)", r.span(0, 21, 9), 3);
        Hand.fill(r, 0, 1, 1, 5, 6, 0);
        Hand.refused(r, "span(0, 21, 0)", r.span(0, 21, 0), 5);
        Hand.refused(r, "span(0, -1, 0)", r.span(0, -1, 0), 5);
        Hand.refused(r, "span(0, 5, 3)", r.span(0, 5, 3), 5);
        Hand.refused(r, "span(0, 5, -1)", r.span(0, 5, -1), 5);
        Hand.refused(r, "span(0, 5, 0)", r.span(0, 5, 0), 4);
        Hand.granted(r, "span(0, 4, 0)", r.span(0, 4, 0), 2);
        Hand.granted(r, "span(0, 4, 1)", r.span(0, 4, 1), 3);
        Hand.granted(r, "span(0, 1, 1)", r.span(0, 1, 1), 1);
        Hand.granted(r, "span(0, 1, 2)", r.span(0, 1, 2), 3);
        Hand.granted(r, "span(0, 0, 2)", r.span(0, 0, 2), 0);
        r.write(0, 3, 125);
        Hand.refused(r, "span(0, 4, 0)", r.span(0, 4, 0), 5);
        Hand.granted(r, "span(0, 3, 0)", r.span(0, 3, 0), 2);
        r.write(0, 3, -1);
        Hand.refused(r, "span(0, 4, 0) of -1", r.span(0, 4, 0), 5);
        Hand.fill(r, 1, 3, 1L << 32);
        Hand.refused(r, "span(1, 1, 0) of what an int would take for 0", r.span(1, 1, 0), 5);
        Hand.world(r, HEISENBERG);
        Hand.fill(r, 0, 0, 1, 3, 9);
        Hand.granted(r, "span(0, 2, 1)", r.span(0, 2, 1), 3);
        Hand.granted(r, "span(0, 1, 2)", r.span(0, 1, 2), 2);
        Hand.fill(r, 0, 0, 9, 1);
        Hand.granted(r, "span(0, 1, 2) of the centre", r.span(0, 1, 2), 1);
        Hand.granted(r, "span(0, 2, 1)", r.span(0, 2, 1), 2);
        r.tray(2, 0, 20);
        Hand.granted(r, "span(2, 20, 0)", r.span(2, 20, 0), 0);
        // Here each bracket has to be bracketed again: 0, 1 make all.
        Hand.world(r, "prime 2; size 5; bracket 0 1 gives 1 of 2; bracket 0 2 gives 1 of 3; bracket 0 3 gives 1 of 4;");
        Hand.fill(r, 0, 0, 1, 2, 4);
        Hand.granted(r, "span(0, 2, 1)", r.span(0, 2, 1), 5);
        Hand.fill(r, 0, 0, 2, 4);
        Hand.granted(r, "span(0, 2, 1)", r.span(0, 2, 1), 2);
        Hand.granted(r, "span(0, 1, 2)", r.span(0, 1, 2), 4);
    }

    private static void series() {
        Hand.about("promises 22 to 25");
        BracketRoom r = Hand.room("prime 3; size 4; bracket 0 1 gives 1 of 2; bracket 0 2 gives 1 of 3;");
        int[] derived = {4, 2, 0, 0};
        int[] lower = {4, 2, 1, 0};
        for (int k = 0; k < 4; k++) {
            Hand.granted(r, "derived(" + k + ")", r.derived(k), derived[k]);
            Hand.granted(r, "lower(" + k + ")", r.lower(k), lower[k]);
        }
        Hand.granted(r, "derived(9)", r.derived(9), 0);
        Hand.granted(r, "lower(9)", r.lower(9), 0);
        for (int bad : new int[] {-1, 10, LOW, HIGH}) {
            Hand.refused(r, "derived(bad)", r.derived(bad), 5);
            Hand.refused(r, "lower(bad)", r.lower(bad), 5);
        }
        Hand.granted(r, "centre()", r.centre(), 1);
        Hand.granted(r, "centralizer(0)", r.centralizer(0), 4);
        Hand.granted(r, "centralizer(1)", r.centralizer(1), 2);
        Hand.granted(r, "centralizer(3)", r.centralizer(3), 3);
        Hand.granted(r, "centralizer(27)", r.centralizer(27), 4);
        Hand.refused(r, "centralizer(81)", r.centralizer(81), 2);
        Hand.refused(r, "centralizer(-1)", r.centralizer(-1), 2);
        Hand.world(r, AFFINE);
        Hand.granted(r, "derived(2)", r.derived(2), 0);
        Hand.granted(r, "lower(9)", r.lower(9), 1);
        Hand.granted(r, "centre()", r.centre(), 0);
        Hand.world(r, "prime 2; size 5;");
        Hand.granted(r, "derived(0)", r.derived(0), 5);
        Hand.granted(r, "derived(1)", r.derived(1), 0);
        Hand.granted(r, "centre()", r.centre(), 5);
        Hand.granted(r, "centralizer(31)", r.centralizer(31), 5);
    }

    private static void kind(String text, int... so) {
        BracketRoom r = Hand.room(text);
        for (int what = 0; what < 6; what++) {
            Hand.granted(r, "is(" + what + ") of " + text, r.is(what), so[what]);
        }
        Hand.refused(r, "is(6)", r.is(6), 5);
        Hand.refused(r, "is(-1)", r.is(-1), 5);
    }

    private static void kinds() {
        Hand.about("promise 26");
        kind("prime 2; size 1;", 1, 1, 1, 0, 0, 1);
        kind("prime 3; size 5;", 1, 1, 1, 0, 0, 1);
        kind(HEISENBERG, 0, 1, 1, 0, 0, 1);
        kind(AFFINE, 0, 0, 1, 0, 0, 0);
        kind(SIMPLE, 0, 0, 0, 1, 1, 1);
        // The cross product is simple, by 2, too.
        kind("prime 2; size 3; bracket 0 1 gives 1 of 2; bracket 1 2 gives 1 of 0; bracket 0 2 gives 1 of 1;", 0, 0, 0, 1, 1, 1);
        // By 2 the MATRIX of 0 has the TRACE 2, which is 0.
        kind("prime 2; size 3; bracket 0 1 gives 1 of 1; bracket 0 2 gives 1 of 2;", 0, 0, 1, 0, 0, 1);
        kind("prime 3; size 3; bracket 0 1 gives 1 of 1; bracket 0 2 gives 1 of 2;", 0, 0, 1, 0, 0, 0);
        // The only ideal but 0 and all is the line of the very first vector.
        kind("prime 2; size 2; bracket 0 1 gives 1 of 0;", 0, 0, 1, 0, 0, 0);
        kind("prime 3; size 4; bracket 0 1 gives 1 of 2; bracket 1 2 gives 1 of 0; bracket 0 2 gives less 1 of 1;",
                0, 0, 0, 0, 0, 1);
    }

    private static void radicals() {
        Hand.about("promise 27");
        BracketRoom r = Hand.room(AFFINE);
        Hand.granted(r, "radical(0)", r.radical(0), 2);
        Hand.granted(r, "radical(1)", r.radical(1), 1);
        Hand.refused(r, "radical(2)", r.radical(2), 5);
        Hand.refused(r, "radical(-1)", r.radical(-1), 5);
        Hand.world(r, SIMPLE);
        Hand.granted(r, "radical(0)", r.radical(0), 0);
        Hand.granted(r, "radical(1)", r.radical(1), 0);
        Hand.world(r, HEISENBERG);
        Hand.granted(r, "radical(1)", r.radical(1), 3);
        Hand.world(r, "prime 3; size 5; bracket 0 1 gives 1 of 2; bracket 1 2 gives 1 of 0; "
                + "bracket 0 2 gives less 1 of 1; bracket 3 4 gives 1 of 4;");
        Hand.granted(r, "radical(0)", r.radical(0), 2);
        Hand.granted(r, "radical(1)", r.radical(1), 1);
    }

    private static void parts() {
        Hand.about("promise 28");
        BracketRoom r = Hand.room(HEISENBERG);
        int[][] due = {{1, 13, 4, 1}, {1, 1, 4, 1}, {1, 13, 4, 0}, {0, 0, 0, 1}};
        for (int what = 0; what < 4; what++) {
            for (int size = 0; size < 4; size++) {
                Hand.granted(r, "parts(" + size + ", " + what + ")", r.parts(size, what), due[what][size]);
            }
        }
        Hand.refused(r, "parts(4, 0)", r.parts(4, 0), 5);
        Hand.refused(r, "parts(-1, 0)", r.parts(-1, 0), 5);
        Hand.refused(r, "parts(0, 4)", r.parts(0, 4), 5);
        Hand.refused(r, "parts(0, -1)", r.parts(0, -1), 5);
        Hand.world(r, "prime 3; size 5;");
        int[] all = {1, 121, 1210, 1210, 121, 1};
        for (int size = 0; size < 6; size++) {
            Hand.granted(r, "parts(" + size + ", 0) of all", r.parts(size, 0), all[size]);
            Hand.granted(r, "parts(" + size + ", 3) of all", r.parts(size, 3), size == 5 ? 1 : 0);
        }
        Hand.world(r, "prime 5; size 4;");
        Hand.granted(r, "parts(2, 2)", r.parts(2, 2), 806);
        Hand.world(r, AFFINE);
        // All lines but the ideal are their own normalizers.
        Hand.granted(r, "parts(1, 3)", r.parts(1, 3), 5);
        Hand.granted(r, "parts(1, 1)", r.parts(1, 1), 1);
        Hand.granted(r, "parts(2, 3)", r.parts(2, 3), 0);
    }

    private static void vectors() {
        Hand.about("promises 30, 31, 33, 35");
        BracketRoom r = Hand.room(SIMPLE);
        Hand.granted(r, "rank(0)", r.rank(0), 0);
        Hand.granted(r, "rank(25)", r.rank(25), 2);
        Hand.refused(r, "rank(125)", r.rank(125), 2);
        Hand.refused(r, "rank(-1)", r.rank(-1), 2);
        Hand.granted(r, "power(0)", r.power(0), 1);
        Hand.granted(r, "power(1)", r.power(1), 3);
        Hand.refused(r, "power(25)", r.power(25), 8);
        Hand.refused(r, "power(125)", r.power(125), 2);
        Hand.granted(r, "form()", r.form(), 3);
        Hand.world(r, HEISENBERG);
        Hand.granted(r, "rank(1)", r.rank(1), 1);
        Hand.granted(r, "power(1)", r.power(1), 2);
        Hand.granted(r, "power(9)", r.power(9), 1);
        Hand.granted(r, "form()", r.form(), 0);
        // Three of the centre with all 27, the other 24 with 9 each.
        Hand.granted(r, "commuting()", r.commuting(), 3 * 27 + 24 * 9);
        Hand.world(r, AFFINE);
        Hand.granted(r, "form()", r.form(), 1);
        Hand.granted(r, "commuting()", r.commuting(), 25 + 24 * 5);
        Hand.refused(r, "power(1)", r.power(1), 8);
        Hand.granted(r, "power(5)", r.power(5), 2);
        Hand.world(r, "prime 5; size 4;");
        Hand.granted(r, "commuting()", r.commuting(), 625 * 625);
        Hand.world(r, "prime 2; size 5; bracket 0 1 gives 1 of 2; bracket 0 2 gives 1 of 3; bracket 0 3 gives 1 of 4;");
        Hand.granted(r, "power(1)", r.power(1), 4);
        Hand.granted(r, "rank(1)", r.rank(1), 3);
        // 0 times a FORM by 2: the Killing form of the cross product is 2 times the plain one.
        Hand.world(r, "prime 2; size 3; bracket 0 1 gives 1 of 2; bracket 1 2 gives 1 of 0; bracket 0 2 gives 1 of 1;");
        Hand.granted(r, "form()", r.form(), 0);
    }

    private static void derivations() {
        Hand.about("promise 32");
        BracketRoom r = Hand.room(HEISENBERG);
        Hand.granted(r, "derivations(0)", r.derivations(0), 6);
        Hand.granted(r, "derivations(1)", r.derivations(1), 2);
        Hand.granted(r, "derivations(2)", r.derivations(2), 4);
        Hand.refused(r, "derivations(3)", r.derivations(3), 5);
        Hand.refused(r, "derivations(-1)", r.derivations(-1), 5);
        Hand.world(r, "prime 2; size 5;");
        Hand.granted(r, "derivations(0)", r.derivations(0), 25);
        Hand.granted(r, "derivations(2)", r.derivations(2), 25);
        Hand.world(r, SIMPLE);
        Hand.granted(r, "derivations(2)", r.derivations(2), 0);
        Hand.world(r, AFFINE);
        Hand.granted(r, "derivations(0)", r.derivations(0), 2);
        // Without JACOBI inner ones need be no derivations: the difference may be below 0.
        Hand.world(r, "prime 3; size 3; bracket 0 1 gives 1 of 0 1 of 2; bracket 0 2 gives 1 of 0; bracket 1 2 gives 1 of 1;");
        Hand.granted(r, "derivations(2)", r.derivations(2), r.derivations(0) - r.derivations(1));
    }

    private static void classes(String text, int... due) {
        BracketRoom r = Hand.room(text);
        int euler = 0;
        for (int k = 0; k < due.length; k++) {
            Hand.granted(r, "classes(" + k + ") of " + text, r.classes(k), due[k]);
            euler += (k % 2 == 0 ? 1 : -1) * r.classes(k);
        }
        Hand.due("Euler's sum of " + text, euler, 0);
        Hand.refused(r, "classes() too great", r.classes(due.length), 5);
        Hand.refused(r, "classes(-1)", r.classes(-1), 5);
    }

    private static void classes() {
        Hand.about("promise 34");
        classes("prime 7; size 1;", 1, 1);
        classes("prime 3; size 5;", 1, 5, 10, 10, 5, 1);
        classes(HEISENBERG, 1, 2, 2, 1);
        classes(AFFINE, 1, 1, 0);
        classes(SIMPLE, 1, 0, 0, 1);
        classes("prime 3; size 4; bracket 0 1 gives 1 of 2; bracket 0 2 gives 1 of 3;", 1, 2, 2, 2, 1);
        classes("prime 3; size 5; bracket 0 1 gives 1 of 4; bracket 2 3 gives 1 of 4;", 1, 4, 5, 5, 4, 1);
        BracketRoom r = Hand.room(BROKEN);
        Hand.refused(r, "classes(1) of what is not lawful", r.classes(1), 9);
        Hand.refused(r, "classes(4) of what is not lawful", r.classes(4), 5);
    }

    private static void maps() {
        Hand.about("promises 36 to 38");
        BracketRoom r = Hand.room("prime 7; size 1;");
        Hand.refused(r, "tries()", r.tries(), 8);
        Hand.granted(r, "maps()", r.maps(), 6);
        Hand.granted(r, "tries()", r.tries(), 6);
        Hand.world(r, "prime 2; size 2;");
        Hand.granted(r, "maps()", r.maps(), 6);
        // Three images of the first, each with three tried for the second.
        Hand.granted(r, "tries()", r.tries(), 12);
        Hand.world(r, AFFINE);
        Hand.granted(r, "maps()", r.maps(), 20);
        Hand.granted(r, "tries()", r.tries(), 24 + 24 * 24);
        Hand.world(r, HEISENBERG);
        Hand.granted(r, "maps()", r.maps(), 48 * 9);
        Hand.refused(r, "sameAs(0)", r.sameAs(0), 8);
        Hand.refused(r, "sameAs(4)", r.sameAs(4), 2);
        Hand.refused(r, "sameAs(-1)", r.sameAs(-1), 2);
        Hand.granted(r, "tries() behind refusals", r.tries(), 26 + 26 * 26 + 26 * 24 * 26);
        r.keep(0);
        Hand.granted(r, "sameAs(0)", r.sameAs(0), 1);
        // 1; then 1, 2, 3; then 1 to 9.
        Hand.granted(r, "tries()", r.tries(), 1 + 3 + 9);
        Hand.world(r, "prime 3; size 3;");
        Hand.granted(r, "sameAs(0)", r.sameAs(0), 0);
        // The bracket of 0 and 1 is looked at with the second one.
        Hand.granted(r, "tries()", r.tries(), 26 + 26 * 26 + (2 * 24 + 24 * 6) * 26);
        Hand.world(r, AFFINE);
        Hand.granted(r, "sameAs(0) of another size", r.sameAs(0), 0);
        Hand.granted(r, "tries()", r.tries(), 0);
        Hand.world(r, SIMPLE);
        Hand.refused(r, "maps() spent", r.maps(), 9);
        Hand.granted(r, "tries()", r.tries(), 200000);
        Hand.world(r, "prime 3; size 5;");
        r.keep(1);
        Hand.world(r, "prime 3; size 5; bracket 0 1 gives 1 of 4;");
        Hand.refused(r, "sameAs(1) spent", r.sameAs(1), 9);
        Hand.granted(r, "tries()", r.tries(), 200000);
        r.tables(2, 3, 1);
        Hand.script(r, "when same 0; end;");
        r.run();
        Hand.granted(r, "tries() of maps() and sameAs() alone", r.tries(), 200000);
    }

    private static void parted(String here, String there, int due) {
        BracketRoom r = Hand.room(there);
        r.keep(2);
        Hand.world(r, here);
        Hand.granted(r, "parted() of " + here + " from " + there, r.parted(2), due);
    }

    private static void partings() {
        Hand.about("promise 39");
        parted("prime 2; size 3;", "prime 2; size 4;", 0);
        parted("prime 2; size 3;", "prime 3; size 3;", 0);
        parted("prime 2; size 3;", "prime 2; size 3; bracket 1 2 gives 1 of 2;", 1);
        parted("prime 2; size 4; bracket 0 1 gives 1 of 0; bracket 0 2 gives 1 of 1; bracket 1 2 gives 1 of 2;",
                "prime 2; size 4; bracket 0 1 gives 1 of 2; bracket 0 2 gives 1 of 3; bracket 0 3 gives 1 of 1;", 2);
        parted("prime 2; size 3; bracket 1 2 gives 1 of 2;", "prime 2; size 3; bracket 0 2 gives 1 of 1;", 3);
        parted("prime 3; size 5; bracket 0 4 gives 1 of 3;",
                "prime 3; size 5; bracket 0 4 gives 2 of 3; bracket 1 2 gives 1 of 3;", 4);
        parted("prime 2; size 3; bracket 0 2 gives 1 of 0; bracket 1 2 gives 1 of 1;",
                "prime 2; size 3; bracket 0 2 gives 1 of 1; bracket 1 2 gives 1 of 0;", 5);
        parted("prime 5; size 3; bracket 0 1 gives 1 of 0; bracket 1 2 gives 1 of 2;",
                "prime 5; size 3; bracket 0 2 gives 1 of 0; bracket 1 2 gives 3 of 1;", 6);
        parted("prime 7; size 3; bracket 0 1 gives 6 of 1; bracket 0 2 gives 5 of 2;",
                "prime 7; size 3; bracket 0 1 gives 5 of 2; bracket 1 2 gives 2 of 0;", 7);
        parted("prime 2; size 5; bracket 0 3 gives 1 of 3; bracket 1 2 gives 1 of 4;",
                "prime 2; size 5; bracket 0 4 gives 1 of 0; bracket 1 3 gives 1 of 0; bracket 3 4 gives 1 of 2;", 8);
        BracketRoom r = Hand.room(SIMPLE);
        Hand.refused(r, "parted(4)", r.parted(4), 2);
        Hand.refused(r, "parted(-1)", r.parted(-1), 2);
        Hand.refused(r, "parted(0)", r.parted(0), 8);
        r.keep(0);
        Hand.refused(r, "parted(0) by none", r.parted(0), 8);
    }

    private static void changes() {
        Hand.about("promise 40");
        BracketRoom r = Hand.room(AFFINE);
        Hand.refused(r, "change(4)", r.change(4), 1);
        Hand.refused(r, "change(0)", r.change(0), 3);
        Hand.fill(r, 0, 0, 9, 9, 9);
        Hand.refused(r, "change(0) of three", r.change(0), 4);
        Hand.fill(r, 0, 0, 5, 0, 0, 0);
        Hand.refused(r, "change(0) of 5", r.change(0), 5);
        Hand.fill(r, 0, 0, 0, 0, 0, -1);
        Hand.refused(r, "change(0) of -1", r.change(0), 5);
        Hand.fill(r, 0, 0, 1, 2, 2, 4);
        Hand.refused(r, "change(0) of too small a span", r.change(0), 9);
        Hand.due("constant(0, 1, 1)", r.constant(0, 1, 1), 1);
        // New 0 is 1; new 1 is 2 of 0 and 3 of 1: their bracket is 2 times the contrary of new 0. (9 behind is unread.)
        Hand.fill(r, 0, 0, 0, 1, 2, 3, 9);
        Hand.granted(r, "change(0)", r.change(0));
        Hand.due("constant(0, 1, 0)", r.constant(0, 1, 0), 3);
        Hand.due("constant(0, 1, 1)", r.constant(0, 1, 1), 0);
        Hand.world(r, HEISENBERG);
        Hand.fill(r, 1, 2, 1, 1, 0, 0, 1, 2, 0, 0, 2);
        Hand.granted(r, "change(1)", r.change(1));
        // [0 + 1, 1 + 2 of 2] = 2, which is 2 of the new 2.
        Hand.due("constant(0, 1, 2)", r.constant(0, 1, 2), 2);
        Hand.due("many(2)", r.many(2), 1);
    }

    private static void squeezes() {
        Hand.about("promise 41");
        BracketRoom r = Hand.room(SIMPLE);
        Hand.refused(r, "squeeze(-1)", r.squeeze(-1), 1);
        Hand.refused(r, "squeeze(0)", r.squeeze(0), 3);
        Hand.fill(r, 0, 0, 21, 0);
        Hand.refused(r, "squeeze(0) of two", r.squeeze(0), 4);
        Hand.fill(r, 0, 0, 0, 0, 21);
        Hand.refused(r, "squeeze(0) of 21", r.squeeze(0), 5);
        Hand.fill(r, 0, 0, -21, 0, 0);
        Hand.refused(r, "squeeze(0) of -21", r.squeeze(0), 5);
        Hand.fill(r, 0, 0, 0, 0, 1);
        Hand.refused(r, "squeeze(0) of 0 0 1", r.squeeze(0), 9);
        Hand.due("many(2)", r.many(2), 3);
        Hand.fill(r, 0, 0, -20, 20, 0, 99);
        Hand.granted(r, "squeeze(0) of -20 20 0", r.squeeze(0));
        Hand.due("many(2)", r.many(2), 3);
        // 1 and 1 are as much as 2: [0, 1] stays, the others go.
        Hand.fill(r, 0, 0, 1, 1, 2);
        Hand.granted(r, "squeeze(0) of 1 1 2", r.squeeze(0));
        Hand.due("many(2)", r.many(2), 1);
        Hand.due("constant(0, 1, 2)", r.constant(0, 1, 2), 1);
        Hand.due("constant(2, 0, 0)", r.constant(2, 0, 0), 0);
        Hand.fill(r, 0, 0, 2, 0, 1);
        Hand.granted(r, "squeeze(0) of 2 0 1", r.squeeze(0));
        Hand.due("is(0)", r.is(0), 1);
        // What is 0 already bars nothing.
        Hand.fill(r, 0, 0, -20, -20, 20);
        Hand.granted(r, "squeeze(0) of nothing", r.squeeze(0));
    }

    private static void bars() {
        Hand.about("promise 42");
        BracketRoom r = Hand.room("prime 3; size 3;");
        r.keep(0);
        Hand.world(r, HEISENBERG);
        r.keep(1);
        Hand.granted(r, "barred(0)", r.barred(0), 0);
        Hand.granted(r, "barred(1)", r.barred(1), 0);
        r.take(0);
        Hand.granted(r, "barred(1)", r.barred(1), 1);
        Hand.refused(r, "barred(2)", r.barred(2), 8);
        Hand.refused(r, "barred(4)", r.barred(4), 2);
        Hand.refused(r, "barred(-1)", r.barred(-1), 2);
        Hand.world(r, AFFINE);
        Hand.refused(r, "barred(0) of another prime", r.barred(0), 5);
        Hand.world(r, "prime 3; size 2;");
        Hand.refused(r, "barred(0) of another size", r.barred(0), 5);
        // Both have 6 derivations; 0 acts on 1, 2 alike, and the heisenberg one has a smaller derived one.
        Hand.world(r, "prime 3; size 3; bracket 0 1 gives 1 of 1; bracket 0 2 gives 1 of 2;");
        Hand.due("derivations(0)", r.derivations(0), 6);
        r.keep(2);
        r.take(1);
        Hand.granted(r, "barred(2)", r.barred(2), 2);
        r.take(2);
        // Their derived one is less, their centre is more: nothing bars.
        Hand.granted(r, "barred(1)", r.barred(1), 0);
        // One acts on three alike: 12 derivations, derived 3, no centre. A simple one and a line: 4, 3, and a centre.
        BracketRoom s = Hand.room("prime 5; size 4; bracket 0 1 gives 1 of 1; bracket 0 2 gives 1 of 2; bracket 0 3 gives 1 of 3;");
        s.keep(0);
        Hand.due("derivations(0)", s.derivations(0), 12);
        Hand.world(s, SIMPLE.replace("size 3", "size 4"));
        Hand.due("derivations(0)", s.derivations(0), 4);
        Hand.granted(s, "barred(0)", s.barred(0), 3);
    }

    private static void growth() {
        Hand.about("promises 43, 44");
        BracketRoom r = Hand.room("prime 3; size 2;");
        Hand.refused(r, "cocycle(4)", r.cocycle(4), 1);
        Hand.refused(r, "cocycle(0)", r.cocycle(0), 3);
        Hand.refused(r, "grow(4)", r.grow(4), 1);
        Hand.refused(r, "grow(0)", r.grow(0), 3);
        r.tray(0, 0, 0);
        Hand.refused(r, "cocycle(0) of none", r.cocycle(0), 4);
        Hand.refused(r, "grow(0) of none", r.grow(0), 4);
        Hand.fill(r, 0, 0, 3);
        Hand.refused(r, "cocycle(0) of 3", r.cocycle(0), 5);
        Hand.refused(r, "grow(0) of 3", r.grow(0), 5);
        Hand.fill(r, 0, 0, -1);
        Hand.refused(r, "cocycle(0) of -1", r.cocycle(0), 5);
        Hand.fill(r, 0, 0, 2);
        Hand.granted(r, "cocycle(0)", r.cocycle(0), 1);
        Hand.granted(r, "grow(0)", r.grow(0), 3);
        Hand.due("constant(0, 1, 2)", r.constant(0, 1, 2), 2);
        Hand.due("centre()", r.centre(), 1);
        // 0 2 told behind 0 1: the new one is [0, 2].
        Hand.fill(r, 0, 0, 0, 1, 0);
        Hand.granted(r, "cocycle(0)", r.cocycle(0), 1);
        Hand.granted(r, "grow(0)", r.grow(0), 4);
        Hand.due("constant(0, 2, 3)", r.constant(0, 2, 3), 1);
        Hand.due("constant(0, 1, 2)", r.constant(0, 1, 2), 2);
        // Of 0 and 1 and 3: f of [0, 1] = 2 of 2 with 3 is not closed.
        Hand.fill(r, 0, 0, 0, 0, 0, 0, 0, 1);
        Hand.granted(r, "cocycle(0)", r.cocycle(0), 0);
        Hand.refused(r, "grow(0)", r.grow(0), 9);
        Hand.due("many(1)", r.many(1), 4);
        Hand.fill(r, 0, 0, 0, 0, 1, 0, 0, 0);
        Hand.granted(r, "grow(0)", r.grow(0), 5);
        Hand.due("is(1)", r.is(1), 1);
        Hand.due("lower(3)", r.lower(3), 1);
        Hand.refused(r, "grow(9): too great ahead of all", r.grow(9), 7);
        Hand.world(r, "prime 5; size 4;");
        Hand.refused(r, "grow(0)", r.grow(0), 7);
        Hand.world(r, "prime 7; size 3;");
        Hand.refused(r, "grow(0)", r.grow(0), 7);
        Hand.world(r, "prime 7; size 1;");
        r.tray(1, 3, 0);
        Hand.granted(r, "cocycle(1) of no couples", r.cocycle(1), 1);
        Hand.granted(r, "grow(1)", r.grow(1), 2);
        Hand.due("is(0)", r.is(0), 1);
        Hand.world(r, SIMPLE);
        Hand.fill(r, 0, 0, 1, 2, 3);
        Hand.granted(r, "cocycle(0) of three", r.cocycle(0), 1);
        Hand.granted(r, "grow(0)", r.grow(0), 4);
        Hand.due("lawful()", r.lawful(), 1);
        Hand.due("derived(1)", r.derived(1), 3);
    }

    private static void sums() {
        Hand.about("promise 45");
        BracketRoom r = Hand.room(AFFINE);
        Hand.refused(r, "sum(4)", r.sum(4), 2);
        Hand.refused(r, "sum(-1)", r.sum(-1), 2);
        Hand.refused(r, "sum(0)", r.sum(0), 8);
        r.keep(0);
        Hand.world(r, "prime 5; size 1;");
        Hand.granted(r, "sum(0)", r.sum(0), 3);
        Hand.due("constant(1, 2, 2)", r.constant(1, 2, 2), 1);
        Hand.due("many(2)", r.many(2), 1);
        Hand.refused(r, "sum(0) too great", r.sum(0), 7);
        Hand.due("many(1)", r.many(1), 3);
        Hand.world(r, "prime 3; size 5;");
        Hand.refused(r, "sum(0) of another prime, too great", r.sum(0), 5);
        r.take(0);
        Hand.granted(r, "sum(0)", r.sum(0), 4);
        Hand.due("constant(0, 1, 1)", r.constant(0, 1, 1), 1);
        Hand.due("constant(2, 3, 3)", r.constant(2, 3, 3), 1);
        Hand.due("constant(1, 3, 3)", r.constant(1, 3, 3), 0);
        r.take(0);
        Hand.due("many(1) of the shelf's own", r.many(1), 2);
    }

    private static void rests() {
        Hand.about("promise 46");
        BracketRoom r = Hand.room(HEISENBERG);
        Hand.refused(r, "rest(4, 0)", r.rest(4, 0), 1);
        Hand.refused(r, "rest(0, 0)", r.rest(0, 0), 3);
        Hand.fill(r, 0, 1, 9, 1, 3, 27);
        Hand.refused(r, "rest(0, 0)", r.rest(0, 0), 5);
        Hand.refused(r, "rest(0, 21)", r.rest(0, 21), 5);
        Hand.refused(r, "rest(0, 5)", r.rest(0, 5), 4);
        Hand.refused(r, "rest(0, 4)", r.rest(0, 4), 5);
        Hand.refused(r, "rest(0, 3)", r.rest(0, 3), 9);
        Hand.due("many(1)", r.many(1), 3);
        Hand.granted(r, "rest(0, 1)", r.rest(0, 1), 2);
        Hand.due("is(0)", r.is(0), 1);
        // 1 of 0 acts on 1, 2; the ideal of 1 and 2 together leads at 1, so that 0, 2 are left.
        Hand.world(r, "prime 3; size 3; bracket 0 1 gives 1 of 1; bracket 0 2 gives 1 of 2;");
        Hand.fill(r, 0, 1, 3 + 9);
        Hand.granted(r, "rest(0, 1)", r.rest(0, 1), 2);
        Hand.due("constant(0, 1, 1)", r.constant(0, 1, 1), 1);
        Hand.world(r, AFFINE);
        Hand.fill(r, 0, 1, 0);
        Hand.granted(r, "rest(0, 1) by 0", r.rest(0, 1), 2);
        Hand.due("constant(0, 1, 1)", r.constant(0, 1, 1), 1);
        // What lies in the ideal is taken away: 1 is 2 of 2 less 1 there.
        Hand.world(r, "prime 5; size 4; bracket 0 3 gives 1 of 1; bracket 0 2 gives 3 of 1 1 of 3;");
        Hand.fill(r, 0, 3, 5 + 3 * 25);
        Hand.due("the size of the ideal", r.span(0, 1, 2), 3);
        Hand.granted(r, "rest(0, 1)", r.rest(0, 1), 1);
        Hand.world(r, "prime 5; size 4; bracket 0 3 gives 1 of 1;");
        Hand.granted(r, "rest(0, 1)", r.rest(0, 1), 3);
        // 0, 2, 3 are left as 0, 1, 2; 1 is less 3 of 2 there.
        Hand.due("constant(0, 2, 1)", r.constant(0, 2, 1), 2);
        Hand.due("many(2)", r.many(2), 1);
    }

    private static void takings() {
        Hand.about("promise 47");
        BracketRoom r = Hand.room(SIMPLE);
        Hand.refused(r, "takeOut(-1, 1)", r.takeOut(-1, 1), 1);
        Hand.refused(r, "takeOut(0, 1)", r.takeOut(0, 1), 3);
        Hand.fill(r, 0, 1, 0, 25, 1, 125);
        Hand.refused(r, "takeOut(0, 0)", r.takeOut(0, 0), 5);
        Hand.refused(r, "takeOut(0, 21)", r.takeOut(0, 21), 5);
        Hand.refused(r, "takeOut(0, 20)", r.takeOut(0, 20), 4);
        Hand.refused(r, "takeOut(0, 4)", r.takeOut(0, 4), 5);
        Hand.refused(r, "takeOut(0, 1)", r.takeOut(0, 1), 9);
        Hand.due("many(1)", r.many(1), 3);
        Hand.granted(r, "takeOut(0, 3)", r.takeOut(0, 3), 2);
        // Rows e, h: [e, h] is less 2 of e.
        Hand.due("constant(0, 1, 0)", r.constant(0, 1, 0), 3);
        Hand.due("constant(0, 1, 1)", r.constant(0, 1, 1), 0);
        Hand.world(r, HEISENBERG);
        // 2 of 0 and 1 of 2, and 1: rows 0 and 2 of 2 .. the bracket 2 comes to them, so all is the part.
        Hand.fill(r, 0, 1, 2 + 9, 3);
        Hand.granted(r, "takeOut(0, 2)", r.takeOut(0, 2), 3);
        Hand.due("constant(0, 1, 2)", r.constant(0, 1, 2), 1);
        Hand.fill(r, 0, 1, 2 + 9);
        Hand.granted(r, "takeOut(0, 1)", r.takeOut(0, 1), 1);
        Hand.due("many(0)", r.many(0), 3);
        // The echelon of 0 + 1 and 2 in a world where 2 acts on 0, 1 alike.
        Hand.world(r, "prime 5; size 3; bracket 0 2 gives 2 of 0; bracket 1 2 gives 2 of 1;");
        Hand.fill(r, 0, 1, 3 + 15, 25);
        Hand.granted(r, "takeOut(0, 2)", r.takeOut(0, 2), 2);
        Hand.due("constant(0, 1, 0)", r.constant(0, 1, 0), 2);
    }

    private static void allTables() {
        Hand.about("promise 48");
        BracketRoom r = new BracketRoom();
        int[][] due = {{2, 1, 1, 1}, {2, 2, 4, 2}, {3, 1, 1, 1}, {3, 2, 9, 2}, {2, 3, 120, 7}};
        for (int[] d : due) {
            Hand.granted(r, "tables(" + d[0] + ", " + d[1] + ", 0)", r.tables(d[0], d[1], 0), d[2]);
            Hand.granted(r, "tables(" + d[0] + ", " + d[1] + ", 1)", r.tables(d[0], d[1], 1), d[3]);
        }
        int[][] bad = {{3, 3, 0}, {2, 4, 0}, {2, 0, 0}, {5, 1, 0}, {7, 2, 1}, {2, 2, 2}, {2, 2, -1}, {0, 1, 0}, {-2, 1, 0},
            {2, LOW, 0}, {3, HIGH, 0}};
        for (int[] b : bad) {
            Hand.refused(r, "tables(" + b[0] + ", " + b[1] + ", " + b[2] + ")", r.tables(b[0], b[1], b[2]), 5);
        }
        Hand.due("many(1): the world stays", r.many(1), 1);
        Hand.refused(r, "tries()", r.tries(), 8);
    }

    private static void ran(BracketRoom r, String text, int steps, int missed, int left) {
        Hand.due("script() of " + text, Hand.script(r, text) >= 0, true);
        Hand.granted(r, "run() of " + text, r.run(), steps);
        Hand.granted(r, "ran(0) of " + text, r.ran(0), missed);
        Hand.granted(r, "ran(1) of " + text, r.ran(1), left);
    }

    private static void scripts() {
        Hand.about("promises 49, 50");
        BracketRoom r = Hand.room(AFFINE);
        Hand.refused(r, "run()", r.run(), 8);
        Hand.refused(r, "ran(2)", r.ran(2), 5);
        Hand.refused(r, "ran(-1)", r.ran(-1), 5);
        Hand.refused(r, "ran(0)", r.ran(0), 8);
        ran(r, "swap 0 1;", 1, 0, 0);
        Hand.due("constant(0, 1, 0)", r.constant(0, 1, 0), 4);
        ran(r, "scale 1 by 3;", 1, 0, 0);
        Hand.due("constant(0, 1, 0)", r.constant(0, 1, 0), 2);
        // New 1 is 1 and 4 of 0: its bracket with 0 stays. New 0 is 0 and 2 of 1: 2 of the old 0.
        ran(r, "add 4 of 0 to 1;", 1, 0, 0);
        Hand.due("constant(0, 1, 0)", r.constant(0, 1, 0), 2);
        ran(r, "add 2 of 1 to 0;", 1, 0, 0);
        Hand.due("constant(0, 1, 0)", r.constant(0, 1, 0), 2);
        Hand.due("constant(0, 1, 1)", r.constant(0, 1, 1), 1);
        ran(r, "add 5 of 1 to 0; add 0 of 1 to 0;", 2, 0, 0);
        Hand.world(r, AFFINE);
        ran(r, "swap 1 1; swap 0 2; scale 2 by 1; scale 0 by 5; add 1 of 0 to 0; add 1 of 2 to 0; add 1 of 0 to 2; "
                + "take 2; sum 2;", 9, 9, 0);
        Hand.due("constant(0, 1, 1)", r.constant(0, 1, 1), 1);
        ran(r, "keep 2; sum 2; sum 2; take 2; keep 3;", 5, 1, 0);
        Hand.due("many(1)", r.many(1), 2);
        Hand.due("many(3)", r.many(3), 12);
        Hand.world(r, "prime 3; size 1;");
        ran(r, "sum 2;", 1, 1, 0);
        ran(r, "take 2; when lawful; when solvable; when abelian; stop; end; when nilpotent; stop; end; keep 0; end; end; stop; keep 1;",
                7, 0, 0);
        Hand.due("many(3)", r.many(3), 13);
        ran(r, "when derived 1 = 1; keep 1; end; when derived 1 > 1; stop; end; when derived 1 < 1; stop; end;", 4, 0, 0);
        ran(r, "when derived 0 > 1; keep 1; end; when derived 2 < 1; keep 1; end; when size > 2; stop; end; "
                + "when size < 2; stop; end; when size = 2; keep 1; end;", 8, 0, 0);
        ran(r, "when same 2; swap 0 1; when same 2; keep 1; end; end;", 4, 0, 0);
        Hand.world(r, "prime 5; size 2;");
        ran(r, "when same 2; stop; end; when abelian; when nilpotent; end; end;", 3, 0, 0);
        BracketRoom s = Hand.room(HEISENBERG);
        ran(s, "when same 3; stop; end;", 1, 0, 0);
        ran(s, "when nilpotent; keep 0; end; when abelian; keep 1; end;", 3, 0, 0);
        Hand.due("many(3)", s.many(3), 1);
        Hand.world(s, BROKEN);
        ran(s, "when lawful; keep 2; end;", 1, 0, 0);
        Hand.due("many(3)", s.many(3), 1);
        // A same that is SPENT is not so.
        Hand.world(s, "prime 3; size 5;");
        s.keep(3);
        Hand.world(s, "prime 3; size 5; bracket 0 1 gives 1 of 4;");
        ran(s, "when same 3; stop; end; keep 1;", 2, 0, 0);
        Hand.granted(s, "ran(0) stays", s.ran(0), 0);
    }

    private static void scriptLimits() {
        Hand.about("promises 49, 50: limits");
        BracketRoom r = Hand.room(AFFINE);
        ran(r, "loop 3; keep 0; swap 0 0; end;", 7, 3, 0);
        ran(r, "loop 99; end; loop 1; end;", 2, 0, 0);
        ran(r, "loop 99; loop 2; end; end;", 100, 0, 0);
        ran(r, "loop 2; loop 3; keep 0; end; keep 1; end;", 1 + 2 * 5, 0, 0);
        // 1 and 99 times 3 are 298; two more are done, a third is left.
        ran(r, "loop 99; keep 0; keep 0; keep 0; end; keep 0; keep 0;", 300, 0, 0);
        ran(r, "loop 99; keep 0; keep 0; keep 0; end; keep 0; keep 0; keep 0;", 300, 0, 1);
        ran(r, "loop 99; keep 0; keep 0; keep 0; end; keep 0; stop; keep 0;", 300, 0, 0);
        ran(r, "loop 99; keep 0; keep 0; keep 0; end; keep 0; loop 99; end;", 300, 0, 0);
        ran(r, "loop 99; keep 0; keep 0; keep 0; end; keep 0; loop 99; keep 3; end;", 300, 0, 1);
        ran(r, "loop 99; keep 0; keep 0; keep 0; end; keep 0; keep 0; when abelian; end;", 300, 0, 1);
        Hand.due("many(3)", r.many(3), 3);
        ran(r, "loop 99; loop 99; loop 99; swap 0 1; end; end; end;", 300, 0, 1);
        ran(r, "loop 5; stop; end;", 2, 0, 0);
    }

    private static void marks() {
        Hand.about("promises 51, 52");
        BracketRoom r = Hand.room(AFFINE);
        Hand.refused(r, "back()", r.back(), 8);
        Hand.script(r, "keep 0; keep 1;");
        Hand.granted(r, "mark()", r.mark(), 1);
        r.keep(2);
        Hand.world(r, HEISENBERG);
        Hand.script(r, "stop;");
        Hand.granted(r, "mark()", r.mark(), 2);
        r.put(0, 1, 0, 1);
        r.keep(2);
        Hand.granted(r, "mark()", r.mark(), 3);
        Hand.refused(r, "mark() the fourth", r.mark(), 7);
        Hand.fill(r, 0, 1, 77);
        Hand.granted(r, "back()", r.back(), 2);
        Hand.due("constant(0, 1, 0)", r.constant(0, 1, 0), 1);
        Hand.granted(r, "back()", r.back(), 1);
        Hand.due("constant(0, 1, 0)", r.constant(0, 1, 0), 0);
        Hand.due("run()", r.run(), 1);
        r.take(2);
        Hand.due("many(0) of the shelf that is taken back", r.many(0), 5);
        Hand.granted(r, "mark()", r.mark(), 2);
        Hand.granted(r, "back()", r.back(), 1);
        Hand.granted(r, "back()", r.back(), 0);
        Hand.due("many(0)", r.many(0), 5);
        Hand.due("many(3)", r.many(3), 0);
        Hand.due("run()", r.run(), 2);
        Hand.due("many(3)", r.many(3), 3);
        Hand.due("read(0, 0): trays are not taken back", r.read(0, 0), 77);
        Hand.refused(r, "back()", r.back(), 8);
        BracketRoom s = new BracketRoom();
        s.mark();
        Hand.script(s, "stop;");
        s.run();
        s.back();
        Hand.refused(s, "run(): there was no script at the mark", s.run(), 8);
        Hand.granted(s, "ran(1): what ran is not taken back", s.ran(1), 0);
    }
}
