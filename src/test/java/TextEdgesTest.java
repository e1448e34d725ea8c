import java.util.ArrayList;
import java.util.List;

/** The edges of texts: each sentence of the document on the tape, TOKENS, FAULTS, SCRIPTS that names a boundary. */
public final class TextEdgesTest {
    private static final int LOW = Integer.MIN_VALUE;
    private static final int HIGH = Integer.MAX_VALUE;
    private static final String AFFINE = "prime 5; size 2; bracket 0 1 gives 1 of 1;";

    public static void main(String[] args) {
        tape();
        lengths();
        faultIsOfTheLatest();
        tokens();
        bytes();
        numbersOfFourDigits();
        worldTokenByToken();
        scriptTokenByToken();
        worldNumbers();
        toldAlready();
        newWorldIsAlone();
        leastKind();
        scriptNumbers();
        thirtySteps();
        threeDeep();
        ends();
        stepsAreDone();
        missed();
        tests();
        threeHundred();
        loops();
        stops();
        sixHundredBytes();
        Hand.end("TextEdgesTest");
    }

    // ---- the tape

    private static void tape() {
        Hand.about("feed: NONE if there would be more than 600");
        BracketRoom r = new BracketRoom();
        for (int i = 1; i <= 29; i++) {
            Hand.due("feed()", r.feed(0, 0, 0, 0, 0), 20L * i);
        }
        r.many(9);
        Hand.due("feed() to 600 just", r.feed(LOW, HIGH, -1, 0, 1), 600);
        Hand.due("feed() to 620", r.feed(0, 0, 0, 0, 0), -1);
        Hand.due("feed() to 620 again", r.feed(0, 0, 0, 0, 0), -1);
        Hand.due("status(): feed() has none", r.status(), 5);
        Hand.refused(r, "script(0)", r.script(-1), 5);
        Hand.due("feed(): the tape stayed with 5", r.feed(0, 0, 0, 0, 0), -1);
        Hand.granted(r, "script(0) of a full tape", r.script(0), 0);
        Hand.due("feed(): the tape is empty then", r.feed(0, 0, 0, 0, 0), 20);
        Hand.refused(r, "world(0) of a tape that has something", r.world(0), 10);
        Hand.due("feed(): with 10 the tape is empty, too", r.feed(0, 0, 0, 0, 0), 20);
        Hand.about("a new object has an empty tape");
        BracketRoom s = new BracketRoom();
        Hand.refused(s, "world(0)", s.world(0), 10);
        Hand.due("fault(1)", s.fault(1), 0);
        Hand.refused(s, "world(1)", s.world(1), 5);
        Hand.about("the highest of each int first");
        s.feed(0x01020304, 0, 0, 0, 0);
        Hand.refused(s, "world(20)", s.world(20), 10);
        Hand.due("fault(0)", s.fault(0), 1);
        Hand.due("fault(1)", s.fault(1), 0);
        s.feed(0x20200A20, 0x20202001, 0, 0, 0);
        Hand.refused(s, "world(20)", s.world(20), 10);
        Hand.due("fault(0)", s.fault(0), 1);
        Hand.due("fault(1)", s.fault(1), 7);
    }

    private static void lengths() {
        Hand.about("world, script: 5 for an n that the tape has not");
        for (int n : new int[] {-1, 21, 300, 600, 601, LOW, HIGH}) {
            Hand.kept(() -> fed("prime 2; size 1;    "), "world(" + n + ")", 5, r -> r.world(n));
            Hand.kept(() -> fed("prime 2; size 1;    "), "script(" + n + ")", 5, r -> r.script(n));
        }
        BracketRoom r = fed("prime 2; size 1;    ");
        r.world(21);
        Hand.granted(r, "world(16): the tape stayed", r.world(16), 1);
        Hand.about("script: 5 above 300, too");
        String long320 = "stop;" + " ".repeat(315);
        Hand.kept(() -> fed(long320), "script(301)", 5, x -> x.script(301));
        Hand.kept(() -> fed(long320), "script(320)", 5, x -> x.script(320));
        Hand.feed(r, long320);
        Hand.granted(r, "script(300)", r.script(300), 1);
        Hand.about("the first n bytes are the text, the others are gone, too");
        Hand.feed(r, "stop; stop; stop;");
        Hand.granted(r, "script(11)", r.script(11), 2);
        Hand.refused(r, "script(1)", r.script(1), 5);
        Hand.about("script: no STEP at all is a SCRIPT");
        Hand.feed(r, " \n \n");
        Hand.granted(r, "script(4) of blanks", r.script(4), 0);
        Hand.granted(r, "run()", r.run(), 0);
        Hand.granted(r, "ran(0)", r.ran(0), 0);
        Hand.granted(r, "ran(1)", r.ran(1), 0);
    }

    /** A room with a WORLD, a SCRIPT, and a text on its tape. */
    private static BracketRoom fed(String text) {
        BracketRoom r = Hand.room(AFFINE);
        Hand.script(r, "keep 0; swap 0 0;");
        Hand.feed(r, text);
        return r;
    }

    private static void faultIsOfTheLatest() {
        Hand.about("fault: of the latest with STATUS 0 or 10");
        BracketRoom r = new BracketRoom();
        for (int what : new int[] {-1, 0, 1, 2, LOW, HIGH}) {
            Hand.due("fault(" + what + ") ahead of any", r.fault(what), -1);
        }
        r.world(1);
        Hand.due("fault(0) behind 5 alone", r.fault(0), -1);
        Hand.script(r, "stop; go;");
        Hand.due("fault(0)", r.fault(0), 2);
        Hand.due("fault(1)", r.fault(1), 6);
        for (int what : new int[] {-1, 2, LOW, HIGH}) {
            Hand.due("fault(" + what + ")", r.fault(what), -1);
        }
        r.world(1);
        r.script(301);
        r.many(0);
        Hand.due("fault(0) behind 5", r.fault(0), 2);
        Hand.due("fault(1) behind 5", r.fault(1), 6);
        Hand.world(r, AFFINE);
        Hand.due("fault(0): 0 without one", r.fault(0), 0);
        Hand.due("fault(1): NONE without one", r.fault(1), -1);
        Hand.world(r, "prime 9;");
        Hand.due("fault(0)", r.fault(0), 4);
        Hand.script(r, "stop;");
        Hand.due("fault(0) of script() now", r.fault(0), 0);
        Hand.due("fault(1) of script() now", r.fault(1), -1);
        Hand.about("fault: not taken back");
        r.mark();
        Hand.world(r, "prime 9;");
        r.back();
        Hand.due("fault(0)", r.fault(0), 4);
        Hand.due("fault(1)", r.fault(1), 6);
    }

    // ---- TOKENS

    private static void fine(String text, int size) {
        BracketRoom r = new BracketRoom();
        Hand.granted(r, "world() of " + text, Hand.world(r, text), size);
        Hand.due("fault(0) of " + text, r.fault(0), 0);
        Hand.due("fault(1) of " + text, r.fault(1), -1);
    }

    private static void fineScript(String text, int steps) {
        BracketRoom r = new BracketRoom();
        Hand.granted(r, "script() of " + text, Hand.script(r, text), steps);
        Hand.due("fault(0) of " + text, r.fault(0), 0);
        Hand.due("fault(1) of " + text, r.fault(1), -1);
    }

    private static void bad(String text, int kind, int place) {
        BracketRoom r = Hand.room(AFFINE);
        String before = Hand.table(r);
        Hand.refused(r, "world() of " + text, Hand.world(r, text), 10);
        Hand.due("fault(0) of " + text, r.fault(0), kind);
        Hand.due("fault(1) of " + text, r.fault(1), place);
        Hand.due("the old WORLD behind " + text, Hand.table(r).equals(before), true);
        Hand.refused(r, "world(1): the tape is empty", r.world(1), 5);
    }

    private static void badScript(String text, int kind, int place) {
        BracketRoom r = new BracketRoom();
        Hand.script(r, "keep 1; keep 2; keep 3;");
        Hand.refused(r, "script() of " + text, Hand.script(r, text), 10);
        Hand.due("fault(0) of " + text, r.fault(0), kind);
        Hand.due("fault(1) of " + text, r.fault(1), place);
        Hand.refused(r, "script(1): the tape is empty", r.script(1), 5);
        Hand.due("run() of the old one behind " + text, r.run(), 3);
    }

    private static void tokens() {
        Hand.about("TOKENS, as long as they go, between them blanks (10, 32)");
        fine("prime2;size2;bracket0 1gives1of0 1of1;", 2);
        fine("\n \n prime\n2 \n;\nsize 2\n;\n bracket\n0\n1\ngives\nless\n1\nof\n0\n;\n\n ", 2);
        fine("prime 2;size 1;", 1);
        bad("primesize 2;", 2, 0);
        bad("pri me 2;", 2, 0);
        bad("prime 2; size 2; bracket 01 gives 1 of 0;", 2, 28);
        bad("prime 2; size 2; bracket 0 1 gives 1 of 01 of 1;", 2, 43);
        bad("prime 2 2;", 2, 8);
        bad("prime 2; size 2; bracket 0 1 givesless 1 of 0;", 2, 29);
        bad("prime 2; size 2; bracket 0 1 gives lesss 1 of 0;", 2, 35);
        fineScript("swap 0 1;scale 0by2;add 1of 0to 1;when size<3;end;when size=3;end;when derived 1>0;end;stop;", 7);
        badScript("keep0 1;", 2, 6);
        badScript("stopstop;", 2, 0);
        badScript("add 1of0to1;;", 2, 12);
    }

    private static void bytes() {
        Hand.about("1 no TOKEN begins so");
        // Beside the small letters, the digits, the signs and the two blanks.
        for (int c = 0; c < 256; c++) {
            boolean letter = c >= 'a' && c <= 'z';
            boolean digit = c >= '0' && c <= '9';
            boolean sign = c == ';' || c == '<' || c == '>' || c == '=';
            boolean blank = c == 10 || c == 32;
            String text = "prime 2; size 2; " + (char) c;
            if (blank) {
                fine(text, 2);
            } else if (letter || digit || sign) {
                bad(text, 2, 17);
            } else {
                bad(text, 1, 17);
                bad("prime 2" + (char) c, 1, 7);
                badScript("stop; " + (char) c + "stop;", 1, 6);
                badScript("stop" + (char) c + ";", 1, 4);
            }
        }
    }

    private static void numbersOfFourDigits() {
        Hand.about("NUMBERS (1 to 4 digits); of 5 digits and more: 1, at its first");
        fine("prime 0002; size 0001;", 1);
        fine("prime 0007; size 003; bracket 0000 0002 gives 0006 of 0000;", 3);
        bad("prime 00002; size 1;", 1, 6);
        bad("prime 2; size 00001;", 1, 14);
        bad("prime 20000000000000000002; size 1;", 1, 6);
        bad("prime 4294967298; size 1;", 1, 6);
        bad("prime 2; size 2; bracket 00000 1", 1, 25);
        bad("prime 2; size 2; bracket 0 00001", 1, 27);
        bad("prime 2; size 2; bracket 0 1 gives 00001", 1, 35);
        bad("prime 2; size 2; bracket 0 1 gives 1 of 00001", 1, 40);
        bad("12345", 1, 0);
        bad("1234", 2, 0);
        bad("prime 2; size 2; 12345", 1, 17);
        fineScript("loop 0099; end; keep 0003;", 2);
        badScript("loop 00099; end;", 1, 5);
        badScript("when size = 00002; end;", 1, 12);
        badScript("keep 3; 99999", 1, 8);
        badScript("keep 3; 9999", 2, 8);
    }

    /** In each place of a good text: the text's end, what begins no TOKEN, what can't stand there, a NUMBER that can't be. */
    private static void everywhere(String text, boolean script, int... wholeBefore) {
        for (int[] spot : spots(text)) {
            int at = spot[0];
            String ahead = text.substring(0, at);
            String behind = text.substring(at);
            if (!isAmong(at, wholeBefore)) {
                fault(script, ahead, 2, at);
            } else if (script) {
                fineScript(ahead, stepsOf(ahead));
            } else {
                fine(ahead, text.charAt(text.indexOf("size") + 5) - '0');
            }
            fault(script, ahead + "@" + behind, 1, at);
            fault(script, ahead + " 12345 " + behind, 1, at + 1);
            fault(script, ahead + " zero " + behind, 2, at + 1);
            char c = behind.charAt(0);
            boolean compares = c == '<' || c == '=' || c == '>';
            fault(script, ahead + (compares ? ";" : "=") + behind, 2, at);
            boolean termMayBegin = behind.startsWith("less") || c == ';' && ahead.contains("gives");
            if (Character.isDigit(c)) {
                fault(script, ahead + "9999" + text.substring(spot[1]), 4, at);
            } else if (!termMayBegin) {
                fault(script, ahead + " 1 " + behind, 2, at + 1);
            }
        }
    }

    private static boolean isAmong(int v, int[] all) {
        for (int a : all) {
            if (a == v) {
                return true;
            }
        }
        return false;
    }

    private static int stepsOf(String script) {
        int steps = 0;
        for (String s : script.split(";")) {
            steps += s.isBlank() || s.trim().equals("end") ? 0 : 1;
        }
        return steps;
    }

    private static void fault(boolean script, String text, int kind, int place) {
        if (script) {
            badScript(text, kind, place);
        } else {
            bad(text, kind, place);
        }
    }

    /** Where each TOKEN of a good text begins and ends. */
    private static List<int[]> spots(String text) {
        List<int[]> spots = new ArrayList<>();
        int at = 0;
        while (at < text.length()) {
            char c = text.charAt(at);
            if (c == ' ') {
                at++;
                continue;
            }
            int end = at + 1;
            while (Character.isLetter(c) && end < text.length() && Character.isLetter(text.charAt(end))
                    || Character.isDigit(c) && end < text.length() && Character.isDigit(text.charAt(end))) {
                end++;
            }
            spots.add(new int[] {at, end});
            at = end;
        }
        return spots;
    }

    private static void worldTokenByToken() {
        Hand.about("2 it can't stand there (the end: the text's length): WORLD");
        String text = "prime 7; size 3; bracket 0 2 gives less 3 of 1 2 of 0; bracket 1 2 gives 4 of 2;";
        fine(text, 3);
        everywhere(text, false, 17, 55);
    }

    private static void scriptTokenByToken() {
        Hand.about("2 it can't stand there (the end: the text's length): SCRIPT");
        String plain = "swap 1 0; scale 2 by 3; add 4 of 0 to 2; keep 3; take 2; sum 1; stop;";
        fineScript(plain, 7);
        everywhere(plain, true, 0, 10, 24, 41, 49, 57, 64);
        String deep = "when lawful; when derived 3 < 2; keep 0; end; loop 9; stop; end; end;";
        fineScript(deep, 5);
        everywhere(deep, true, 0);
        String tested = "when abelian; end; when nilpotent; end; when solvable; end; when size > 2; end; when same 3; end;";
        fineScript(tested, 5);
        everywhere(tested, true, 0, 19, 40, 60, 80);
        badScript("when sames 3; end;", 2, 5);
        badScript("when stop; end;", 2, 5);
        badScript("lawful;", 2, 0);
        badScript("when derived 1 1; end;", 2, 15);
        badScript("when size <= 1; end;", 2, 11);
    }

    // ---- NUMBERS of a WORLD's text

    private static void worldNumbers() {
        Hand.about("4 a NUMBER that can't be (no such PRIME)");
        for (int p = 0; p < 30; p++) {
            if (p == 2 || p == 3 || p == 5 || p == 7) {
                fine("prime " + p + "; size 1;", 1);
            } else {
                bad("prime " + p + "; size 1;", 4, 6);
            }
        }
        bad("prime 9999;", 4, 6);
        Hand.about("4 a NUMBER that can't be (SIZE with it, BASE vector, so much)");
        int[][] greatest = {{2, 5}, {3, 5}, {5, 4}, {7, 3}};
        for (int[] g : greatest) {
            int p = g[0];
            String head = "prime " + p + "; size ";
            for (int n = 0; n <= 7; n++) {
                if (n >= 1 && n <= g[1]) {
                    fine(head + n + ";", n);
                    basesOf(head + n + "; ", p, n);
                } else {
                    bad(head + n + ";", 4, 14);
                }
            }
        }
    }

    private static void basesOf(String head, int p, int n) {
        int at = head.length();
        for (int i = 0; i <= n; i++) {
            for (int j = 0; j <= n; j++) {
                String text = head + "bracket " + i + " " + j + " gives 1 of 0;";
                if (i == n) {
                    bad(text, 4, at + 8);
                } else if (j == n || j <= i) {
                    bad(text, 4, at + 10);
                } else {
                    fine(text, n);
                }
            }
        }
        for (int k = 0; n > 1 && k <= n; k++) {
            String text = head + "bracket 0 1 gives 1 of " + k + ";";
            if (k < n) {
                fine(text, n);
            } else {
                bad(text, 4, at + 23);
            }
        }
        for (int v = 0; n > 1 && v <= p + 1; v++) {
            String text = head + "bracket 0 1 gives " + v + " of 1;";
            String less = head + "bracket 0 1 gives less " + v + " of 1;";
            if (v >= 1 && v < p) {
                BracketRoom r = Hand.room(text);
                Hand.due("constant(0, 1, 1) of " + text, r.constant(0, 1, 1), v);
                r = Hand.room(less);
                Hand.due("constant(0, 1, 1) of " + less, r.constant(0, 1, 1), p - v);
            } else {
                bad(text, 4, at + 18);
                bad(less, 4, at + 23);
            }
        }
    }

    private static void toldAlready() {
        Hand.about("5 a couple told already (at its second NUMBER), a BASE vector again behind one gives (at it)");
        String head = "prime 3; size 3; ";
        String one = "bracket 0 1 gives 1 of 2; ";
        String two = "bracket 0 2 gives 1 of 2; ";
        String three = "bracket 1 2 gives 1 of 2; ";
        fine(head + three + one + two, 3);
        bad(head + one + one, 5, 17 + 26 + 10);
        bad(head + one + two + three + one, 5, 17 + 3 * 26 + 10);
        bad(head + one + two + three + two, 5, 17 + 3 * 26 + 10);
        bad(head + one + two + three + three, 5, 17 + 3 * 26 + 10);
        bad(head + one + two + "bracket 0 1", 5, 17 + 2 * 26 + 10);
        // The other order of a couple can't be told at all.
        bad(head + one + "bracket 1 0 gives 1 of 2;", 4, 17 + 26 + 10);
        bad(head + "bracket 0 1 gives 1 of 0 1 of 1 1 of 2 2 of 0;", 5, 17 + 44);
        bad(head + "bracket 0 1 gives 1 of 2 1 of 1 1 of 0 less 1 of 1;", 5, 17 + 49);
        bad(head + "bracket 0 1 gives 1 of 2 2 of 2", 5, 17 + 30);
        fine(head + "bracket 0 1 gives 1 of 2 1 of 1 1 of 0;bracket 0 2 gives 1 of 2 1 of 1 1 of 0;", 3);
        fine("prime 2; size 5; bracket 3 4 gives 1 of 4 1 of 3 1 of 2 1 of 1 1 of 0;", 5);
    }

    private static void newWorldIsAlone() {
        Hand.about("a WORLD that is taken from a text is there in place of that ahead");
        BracketRoom r = Hand.room("prime 3; size 5; bracket 0 1 gives 2 of 4; bracket 3 4 gives 1 of 0 2 of 1;");
        Hand.granted(r, "world()", Hand.world(r, "prime 3; size 5; bracket 0 2 gives 1 of 1;"), 5);
        Hand.due("the TABLE", Hand.table(r).equals("3 5 1 0 [0 2] 1 of 1\n"), true);
        Hand.world(r, "prime 7; size 2;");
        Hand.due("the TABLE", Hand.table(r).equals("7 2 0 0\n"), true);
        Hand.about("a text with a FAULT behind good ones leaves nothing");
        Hand.world(r, "prime 7; size 2; bracket 0 1 gives 1 of 1; !");
        Hand.due("the TABLE", Hand.table(r).equals("7 2 0 0\n"), true);
        Hand.world(r, "prime 7; size 3;");
        Hand.due("the TABLE", Hand.table(r).equals("7 3 0 0\n"), true);
    }

    private static void leastKind() {
        Hand.about("the first along the text");
        bad("prime 4; size 9; @", 4, 6);
        bad("prime 5; size 9; bracket", 4, 14);
        bad("prime 2; size 2; bracket 1 1 gives 5 of 7", 4, 27);
        bad("prime 2; size 2; bracket 0 1 gives 1 of 0 1 of 0 #", 5, 47);
        badScript("keep 4; #", 4, 5);
        Hand.about("of one TOKEN the least kind");
        String thirty = "stop;".repeat(30);
        String deep = "loop 1;loop 1;loop 1;" + "stop;".repeat(27);
        badScript(thirty + "swap", 6, 150);
        badScript(thirty + "swaps", 2, 150);
        badScript(thirty + "?", 1, 150);
        badScript(thirty + "00000", 1, 150);
        badScript(thirty + "0000", 2, 150);
        badScript(thirty + ";", 2, 150);
        badScript(deep + "when", 6, deep.length());
        badScript(deep + "stop", 6, deep.length());
        badScript(deep + "whens", 2, deep.length());
        badScript(deep, 2, deep.length());
        badScript(deep.substring(0, deep.length() - 5) + "when", 7, deep.length() - 5);
    }

    // ---- SCRIPTS as texts

    private static void ranges(String ahead, String behind, int least, int most) {
        for (int v = 0; v <= most + 2; v++) {
            String text = ahead + v + behind;
            if (v >= least && v <= most) {
                fineScript(text, 1);
            } else {
                badScript(text, 4, ahead.length());
            }
        }
        badScript(ahead + "9999" + behind, 4, ahead.length());
    }

    private static void scriptNumbers() {
        Hand.about("4: BASE vectors (0 to 4), (1 to 6), (0 to 6), SHELVES 0 to 3, (0 to 5 each), n (1 to 99)");
        ranges("swap ", " 0;", 0, 4);
        ranges("swap 0 ", ";", 0, 4);
        ranges("scale ", " by 1;", 0, 4);
        ranges("scale 0 by ", ";", 1, 6);
        ranges("add ", " of 0 to 1;", 0, 6);
        ranges("add 1 of ", " to 1;", 0, 4);
        ranges("add 1 of 0 to ", ";", 0, 4);
        ranges("keep ", ";", 0, 3);
        ranges("take ", ";", 0, 3);
        ranges("sum ", ";", 0, 3);
        ranges("when derived ", " < 1; end;", 0, 5);
        ranges("when derived 1 < ", "; end;", 0, 5);
        ranges("when derived 1 > ", "; end;", 0, 5);
        ranges("when derived 1 = ", "; end;", 0, 5);
        ranges("when size < ", "; end;", 0, 5);
        ranges("when size > ", "; end;", 0, 5);
        ranges("when size = ", "; end;", 0, 5);
        ranges("when same ", "; end;", 0, 3);
        ranges("loop ", "; end;", 1, 99);
    }

    private static void thirtySteps() {
        Hand.about("6 a 31st STEP (at its WORD; end is none)");
        fineScript("stop;".repeat(30), 30);
        badScript("stop;".repeat(31), 6, 150);
        fineScript("when lawful;".repeat(3) + "stop;".repeat(27) + "end;".repeat(3), 30);
        fineScript("loop 1;end;".repeat(20) + "stop;".repeat(10), 30);
        badScript("loop 1;end;".repeat(20) + "stop;".repeat(10) + " stop;", 6, 271);
        badScript("loop 1;end;".repeat(10) + "stop;".repeat(20) + "loop 1;end;", 6, 210);
        // The text is full of STEPS to its last byte.
        fineScript("stop  ;   ".repeat(30), 30);
    }

    private static void threeDeep() {
        Hand.about("7 a when, loop within three others (at its WORD)");
        String three = "loop 1; when lawful; loop 2; ";
        fineScript(three + "keep 0; end; loop 3; end; end; end;", 5);
        fineScript(three + "end; end; end; " + three + "stop; end; end; end;", 7);
        badScript(three + "loop 3; end; end; end; end;", 7, 29);
        badScript(three + "when lawful; end; end; end; end;", 7, 29);
        badScript(three + "when", 7, 29);
        badScript(three + "end; loop 3; loop 4;", 7, 42);
        Hand.about("a FAULT within three others leaves nothing for the next text");
        BracketRoom r = new BracketRoom();
        Hand.script(r, three + "go");
        Hand.granted(r, "script()", Hand.script(r, three + "stop; end; end; end;"), 4);
        Hand.script(r, three + "go");
        Hand.refused(r, "script()", Hand.script(r, "end;"), 10);
        Hand.due("fault(0)", r.fault(0), 2);
        Hand.due("fault(1)", r.fault(1), 0);
    }

    private static void ends() {
        Hand.about("an end without a beginning; the text's end ahead of an end: 2");
        badScript("end;", 2, 0);
        badScript("stop; end;", 2, 6);
        badScript("loop 1; end; end;", 2, 13);
        badScript("when lawful; loop 1; end; end; end;", 2, 31);
        badScript("loop 1;", 2, 7);
        badScript("loop 1;  \n", 2, 10);
        badScript("loop 1; when lawful; end;", 2, 25);
        badScript("loop 1; end", 2, 11);
        badScript("loop 1; end end;", 2, 12);
        badScript("loop 1; ends;", 2, 8);
    }

    // ---- SCRIPTS that are done

    private static void ran(BracketRoom r, String text, int steps, int missed, int left) {
        Hand.due("script() of " + text, Hand.script(r, text) >= 0, true);
        Hand.granted(r, "run() of " + text, r.run(), steps);
        Hand.granted(r, "ran(0) of " + text, r.ran(0), missed);
        Hand.granted(r, "ran(1) of " + text, r.ran(1), left);
    }

    private static void seen(BracketRoom r, String what, String due) {
        String got = Hand.table(r).trim();
        if (!got.equals(due)) {
            System.out.println(what + ": the TABLE is " + got + ", due is " + due);
        }
        Hand.due(what + ": the TABLE", got.equals(due), true);
    }

    private static void stepsAreDone() {
        Hand.about("swap: two BASE vectors are exchanged");
        BracketRoom r = Hand.room("prime 5; size 3; bracket 0 1 gives 1 of 2; bracket 0 2 gives 2 of 0; bracket 1 2 gives 3 of 1;");
        ran(r, "swap 1 2;", 1, 0, 0);
        // [0, 2] is 1 of the new 1; [0, 1] is 2 of 0; the old [1, 2] is 3 of the old 1: [2, 1] is 3 of the new 2.
        seen(r, "swap 1 2", "5 3 3 0 [0 1] 2 of 0 [0 2] 1 of 1 [1 2] 2 of 2");
        ran(r, "swap 2 1;", 1, 0, 0);
        seen(r, "swap 2 1", "5 3 3 0 [0 1] 1 of 2 [0 2] 2 of 0 [1 2] 3 of 1");
        ran(r, "swap 2 0;", 1, 0, 0);
        // The new [2, 1] is 1 of 0; [2, 0] is 2 of 2; [1, 0] is 3 of 1.
        seen(r, "swap 2 0", "5 3 3 0 [0 1] 2 of 1 [0 2] 3 of 2 [1 2] 4 of 0");
        Hand.about("scale: one is multiplied");
        Hand.world(r, "prime 5; size 3; bracket 0 1 gives 1 of 2; bracket 0 2 gives 2 of 0; bracket 1 2 gives 3 of 1;");
        ran(r, "scale 2 by 1;", 1, 0, 0);
        seen(r, "scale 2 by 1", "5 3 3 0 [0 1] 1 of 2 [0 2] 2 of 0 [1 2] 3 of 1");
        ran(r, "scale 2 by 6;", 1, 0, 0);
        seen(r, "scale 2 by 6, which is 1", "5 3 3 0 [0 1] 1 of 2 [0 2] 2 of 0 [1 2] 3 of 1");
        ran(r, "scale 2 by 2;", 1, 0, 0);
        // The old 2 is 3 of the new one.
        seen(r, "scale 2 by 2", "5 3 3 0 [0 1] 3 of 2 [0 2] 4 of 0 [1 2] 1 of 1");
        Hand.about("add c of i to j: BASE vector j becomes itself and c of i");
        Hand.world(r, "prime 7; size 3; bracket 0 1 gives 1 of 2;");
        ran(r, "add 6 of 2 to 1;", 1, 0, 0);
        seen(r, "add 6 of 2 to 1", "7 3 1 0 [0 1] 1 of 2");
        ran(r, "add 3 of 1 to 2;", 1, 0, 0);
        // The new 2 is c + 3b for the b + 6c that 1 is: c is 1 of the new 2 less 3 of 1; [0, 2] is 3 of c.
        seen(r, "add 3 of 1 to 2", "7 3 4 0 [0 1] 4 of 1 [0 1] 1 of 2 [0 2] 5 of 1 [0 2] 3 of 2");
        ran(r, "add 0 of 0 to 1;", 1, 0, 0);
        seen(r, "add 0 of 0 to 1", "7 3 4 0 [0 1] 4 of 1 [0 1] 1 of 2 [0 2] 5 of 1 [0 2] 3 of 2");
        Hand.world(r, "prime 5; size 2; bracket 0 1 gives 1 of 1;");
        ran(r, "add 5 of 1 to 0; add 6 of 1 to 0;", 2, 0, 0);
        seen(r, "add 5, 6 of 1 to 0", "5 2 1 0 [0 1] 1 of 1");
        Hand.about("keep, take, sum: as keep(), take(), sum()");
        ran(r, "keep 0;", 1, 0, 0);
        Hand.due("many(3)", r.many(3), 1);
        Hand.world(r, "prime 5; size 1;");
        ran(r, "sum 0;", 1, 0, 0);
        seen(r, "sum 0", "5 3 1 1 [1 2] 1 of 2");
        ran(r, "take 0;", 1, 0, 0);
        seen(r, "take 0", "5 2 1 1 [0 1] 1 of 1");
        ran(r, "keep 3; sum 3; sum 0;", 3, 1, 0);
        seen(r, "sum 3", "5 4 2 9 [0 1] 1 of 1 [2 3] 1 of 3");
    }

    private static void missed() {
        Hand.about("what can't be is left out, and MISSED");
        BracketRoom r = Hand.room("prime 3; size 3; bracket 0 1 gives 1 of 2;");
        String before = "3 3 1 0 [0 1] 1 of 2";
        String[] missed = {
            "swap 0 3;", "swap 3 0;", "swap 4 4;", "swap 0 0;", "swap 2 2;", "scale 3 by 1;", "scale 4 by 2;", "scale 0 by 3;",
            "scale 2 by 6;", "add 1 of 3 to 0;", "add 1 of 0 to 3;", "add 0 of 0 to 4;", "add 1 of 1 to 1;", "add 0 of 2 to 2;",
            "take 0;", "take 3;", "sum 0;", "sum 3;",
        };
        for (String m : missed) {
            ran(r, m, 1, 1, 0);
            seen(r, m, before);
        }
        Hand.about("it counts as a STEP, and those behind it are done");
        r = Hand.room("prime 3; size 3; bracket 0 1 gives 1 of 2;");
        ran(r, "swap 0 0; take 1; keep 1; sum 2; take 1; stop;", 6, 3, 0);
        Hand.due("many(3)", r.many(3), 2);
        Hand.about("MISSED: too great");
        int[][] fits = {{2, 3, 2, 1}, {2, 4, 2, 0}, {3, 1, 4, 1}, {3, 5, 1, 0}, {5, 2, 2, 1}, {5, 3, 2, 0}, {7, 1, 2, 1}, {7, 2, 2, 0}};
        for (int[] f : fits) {
            r = new BracketRoom();
            Hand.world(r, "prime " + f[0] + "; size " + f[2] + ";");
            r.keep(0);
            Hand.world(r, "prime " + f[0] + "; size " + f[1] + ";");
            ran(r, "sum 0;", 1, 1 - f[3], 0);
            Hand.due("many(1)", r.many(1), f[3] == 1 ? f[1] + f[2] : f[1]);
        }
        Hand.about("MISSED: a sum with one of another PRIME can't be");
        Hand.world(r, "prime 5; size 1;");
        ran(r, "sum 0;", 1, 1, 0);
        Hand.about("scale: not by what is 0 by p");
        for (int p : new int[] {2, 3, 5, 7}) {
            r = new BracketRoom();
            for (int c = 1; c <= 6; c++) {
                Hand.world(r, "prime " + p + "; size 1;");
                ran(r, "scale 0 by " + c + ";", 1, c % p == 0 ? 1 : 0, 0);
            }
        }
        Hand.about("MISSED is of run() latest alone");
        ran(r, "swap 0 0; swap 0 0;", 2, 2, 0);
        ran(r, "swap 0 0;", 1, 1, 0);
        ran(r, "", 0, 0, 0);
    }

    /** Whether a TEST is so: the STEP within is done, or it is gone on behind its end. */
    private static void test(BracketRoom r, String test, boolean so) {
        ran(r, "when " + test + "; swap 0 0; end; keep 3;", so ? 3 : 2, so ? 1 : 0, 0);
    }

    private static void tests() {
        Hand.about("TEST: lawful, abelian, nilpotent, solvable");
        String[] kinds = {"lawful", "abelian", "nilpotent", "solvable"};
        String[] worlds = {
            "prime 2; size 1;", "prime 3; size 3; bracket 0 1 gives 1 of 2;", AFFINE,
            "prime 3; size 3; bracket 0 1 gives 1 of 2; bracket 1 2 gives 1 of 0; bracket 0 2 gives 2 of 1;",
            "prime 3; size 3; bracket 0 1 gives 1 of 2; bracket 0 2 gives 1 of 0;",
        };
        int[][] so = {{1, 1, 1, 1}, {1, 0, 1, 1}, {1, 0, 0, 1}, {1, 0, 0, 0}, {0, 0, 0, 1}};
        for (int w = 0; w < worlds.length; w++) {
            BracketRoom r = Hand.room(worlds[w]);
            for (int k = 0; k < kinds.length; k++) {
                test(r, kinds[k], so[w][k] == 1);
            }
        }
        Hand.about("TEST: derived NUMBER COMPARES NUMBER, size COMPARES NUMBER");
        String world = "prime 3; size 4; bracket 0 1 gives 1 of 1; bracket 0 2 gives 2 of 2; bracket 1 2 gives 1 of 3;";
        int[] sizes = {4, 3, 1, 0, 0, 0};
        for (int v = 0; v <= 5; v++) {
            BracketRoom r = Hand.room(world);
            for (int k = 0; k <= 5; k++) {
                test(r, "derived " + k + " < " + v, sizes[k] < v);
                test(r, "derived " + k + " > " + v, sizes[k] > v);
                test(r, "derived " + k + " = " + v, sizes[k] == v);
            }
            test(r, "size < " + v, 4 < v);
            test(r, "size > " + v, 4 > v);
            test(r, "size = " + v, 4 == v);
        }
        Hand.about("TEST: same NUMBER");
        BracketRoom s = new BracketRoom();
        Hand.world(s, "prime 2; size 2; bracket 0 1 gives 1 of 0;");
        for (int shelf = 0; shelf < 3; shelf++) {
            test(s, "same " + shelf, false);
            s.keep(shelf);
            test(s, "same " + shelf, true);
        }
        ran(s, "swap 0 1; when same 0; swap 0 0; end;", 3, 1, 0);
        Hand.world(s, "prime 2; size 1;");
        test(s, "same 0", false);
        Hand.world(s, "prime 3; size 2; bracket 0 1 gives 1 of 0;");
        test(s, "same 0", false);
        Hand.world(s, "prime 2; size 2;");
        test(s, "same 0", false);
    }

    private static void threeHundred() {
        Hand.about("at most 300 STEPS; ran(1): 1 if a STEP was left to be done");
        BracketRoom r = new BracketRoom();
        // 1 and 99 times 3 are 298.
        String many = "loop 99; keep 0; keep 0; keep 0; end; ";
        ran(r, many + "keep 0;", 299, 0, 0);
        ran(r, many + "keep 0; keep 0;", 300, 0, 0);
        ran(r, many + "keep 0; keep 0; keep 1;", 300, 0, 1);
        Hand.due("many(3)", r.many(3), 1);
        ran(r, many + "keep 0; keep 0; loop 1; end;", 300, 0, 1);
        ran(r, many + "keep 0; keep 0; when lawful; end;", 300, 0, 1);
        ran(r, many + "keep 0; keep 0; stop;", 300, 0, 1);
        ran(r, many + "keep 0; stop; keep 1;", 300, 0, 0);
        Hand.about("end does not count");
        ran(r, many + "keep 0; when lawful; end;", 300, 0, 0);
        ran(r, many + "keep 0; when size > 1; keep 1; end;", 300, 0, 0);
        ran(r, many + "keep 0; when lawful; keep 1; end;", 300, 0, 1);
        ran(r, many + "keep 0; loop 99; end;", 300, 0, 0);
        ran(r, many + "loop 2; keep 0; end;", 300, 0, 1);
        ran(r, many + "loop 1; keep 0; end;", 300, 0, 0);
        ran(r, "loop 50; keep 0; keep 0; keep 0; keep 0; keep 0; end;", 251, 0, 0);
        ran(r, "loop 60; keep 0; keep 0; keep 0; keep 0; keep 0; end;", 300, 0, 1);
        Hand.due("many(3)", r.many(3), 1);
        Hand.about("what is MISSED counts as a STEP, too");
        ran(r, "loop 99; swap 0 0; swap 0 0; swap 0 0; swap 0 0; end;", 300, 299, 1);
    }

    private static void loops() {
        Hand.about("loop n (1 to 99): the STEPS up to its end are done n times");
        BracketRoom r = Hand.room("prime 2; size 1;");
        ran(r, "loop 1; swap 0 0; end;", 2, 1, 0);
        ran(r, "loop 2; swap 0 0; end;", 3, 2, 0);
        ran(r, "loop 99; swap 0 0; end;", 100, 99, 0);
        ran(r, "loop 99; end;", 1, 0, 0);
        Hand.about("when, loop count as one each time they are come to from ahead");
        ran(r, "loop 99; loop 99; end; end;", 100, 0, 0);
        ran(r, "loop 99; loop 1; loop 99; end; end; end;", 199, 0, 0);
        ran(r, "loop 3; loop 2; swap 0 0; end; end;", 1 + 3 * 3, 6, 0);
        ran(r, "loop 2; loop 2; loop 2; swap 0 0; end; end; end;", 1 + 2 * (1 + 2 * 3), 8, 0);
        ran(r, "loop 99; when lawful; end; when size > 1; end; end;", 1 + 99 * 2, 0, 0);
        ran(r, "loop 2; when size > 1; swap 0 0; end; swap 0 0; end;", 1 + 2 * 2, 2, 0);
        ran(r, "loop 3; keep 0; loop 2; sum 0; end; end;", 1 + 3 * 4, 4, 0);
        Hand.due("many(1)", r.many(1), 3);
    }

    private static void stops() {
        Hand.about("stop: all is over");
        BracketRoom r = new BracketRoom();
        ran(r, "stop; keep 0;", 1, 0, 0);
        ran(r, "loop 9; loop 9; when lawful; stop; end; end; end; keep 0;", 4, 0, 0);
        ran(r, "when size > 1; stop; end; keep 1;", 2, 0, 0);
        Hand.due("many(3)", r.many(3), 2);
        Hand.about("ran: of run() latest with STATUS 0");
        BracketRoom s = new BracketRoom();
        Hand.refused(s, "run()", s.run(), 8);
        Hand.refused(s, "ran(0)", s.ran(0), 8);
        Hand.refused(s, "ran(1)", s.ran(1), 8);
        for (int what : new int[] {-1, 2, LOW, HIGH}) {
            Hand.refused(s, "ran(" + what + ") ahead of any", s.ran(what), 5);
        }
        s.mark();
        ran(s, "swap 0 0; swap 0 0;", 2, 2, 0);
        s.back();
        Hand.refused(s, "run() without a SCRIPT again", s.run(), 8);
        Hand.granted(s, "ran(0) of that ahead", s.ran(0), 2);
        Hand.script(s, "stop;");
        Hand.granted(s, "ran(0): another SCRIPT is not done yet", s.ran(0), 2);
        for (int what : new int[] {-1, 2, LOW, HIGH}) {
            Hand.refused(s, "ran(" + what + ")", s.ran(what), 5);
        }
    }

    private static void sixHundredBytes() {
        Hand.about("a TEXT of at most 600 bytes");
        StringBuilder s = new StringBuilder("prime 2; size 5;");
        for (int i = 0; i < 5; i++) {
            for (int j = i + 1; j < 5; j++) {
                s.append("bracket ").append(i).append(' ').append(j).append(" gives 1 of 0 1 of 1 1 of 2 1 of 3 1 of 4;");
            }
        }
        int told = s.length();
        while (s.length() < 600) {
            s.insert(told, ' ');
        }
        BracketRoom r = new BracketRoom();
        Hand.granted(r, "world(600)", Hand.world(r, s.toString()), 5);
        Hand.due("many(2)", r.many(2), 50);
        s.setCharAt(599, ';');
        Hand.refused(r, "world(600) with a sign as its last byte", Hand.world(r, s.toString()), 10);
        Hand.due("fault(0)", r.fault(0), 2);
        Hand.due("fault(1)", r.fault(1), 599);
        Hand.feed(r, s.toString());
        Hand.granted(r, "world(599) without it", r.world(599), 5);
    }
}
