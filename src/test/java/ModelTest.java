import java.util.ArrayList;
import java.util.List;
import java.util.Random;

/** Random runs of calls on the program and on the Model: every answer and every STATUS must be the same. */
public final class ModelTest {
    private static final String[] CALLS = {
        "tray", "write", "read", "pour", "feed", "world", "script", "fault", "many", "constant", "put", "bracket",
        "lawful", "failing", "keep", "take", "span", "derived", "lower", "centre", "centralizer", "is", "radical",
        "parts", "share", "rank", "power", "derivations", "form", "classes", "commuting", "maps", "sameAs", "tries",
        "parted", "change", "squeeze", "barred", "cocycle", "grow", "sum", "rest", "takeOut", "tables", "run", "ran",
        "mark", "back",
    };

    /** Worlds that mathematicians know; each holds over some PRIMES, over others it may be no lawful one. */
    private static final String[] KNOWN = {
        "size 2; bracket 0 1 gives 1 of 1;",
        "size 3; bracket 0 1 gives 1 of 2;",
        "size 3; bracket 0 1 gives 1 of 2; bracket 1 2 gives 1 of 0; bracket 0 2 gives less 1 of 1;",
        "size 3; bracket 0 1 gives 1 of 2; bracket 0 2 gives less 2 of 0; bracket 1 2 gives 2 of 1;",
        "size 3; bracket 0 1 gives 1 of 1; bracket 0 2 gives 1 of 2;",
        "size 3; bracket 0 1 gives 1 of 1; bracket 0 2 gives 1 of 1 1 of 2;",
        "size 3; bracket 0 1 gives 1 of 2; bracket 0 2 gives less 1 of 1;",
        "size 4; bracket 0 1 gives 1 of 2; bracket 0 2 gives 1 of 3;",
        "size 4; bracket 0 1 gives 1 of 1; bracket 2 3 gives 1 of 3;",
        "size 4; bracket 0 1 gives 1 of 1; bracket 0 2 gives less 1 of 2; bracket 1 2 gives 1 of 3;",
        "size 5; bracket 0 1 gives 1 of 4; bracket 2 3 gives 1 of 4;",
        "size 5; bracket 0 1 gives 1 of 2; bracket 0 2 gives 1 of 3; bracket 0 3 gives 1 of 4; "
            + "bracket 1 2 gives 1 of 4;",
        "size 5; bracket 0 1 gives 1 of 2; bracket 1 2 gives 1 of 0; bracket 0 2 gives less 1 of 1; "
            + "bracket 3 4 gives 1 of 4;",
    };

    private final Random random;
    private final BracketRoom room = new BracketRoom();
    private final Model model = new Model();
    private final List<String> history = new ArrayList<>();
    private int calls;
    private boolean wrong;

    private ModelTest(long seed) {
        random = new Random(seed);
    }

    public static void main(String[] args) {
        int runs = args.length > 0 ? Integer.parseInt(args[0]) : 800;
        long first = args.length > 1 ? Long.parseLong(args[1]) : 1;
        int bad = 0;
        long calls = 0;
        for (long seed = first; seed < first + runs; seed++) {
            ModelTest t = new ModelTest(seed);
            t.go();
            calls += t.calls;
            if (t.wrong) {
                System.out.println("seed " + seed + ": " + t.history.get(t.history.size() - 1));
                if (bad == 0) {
                    t.history.forEach(System.out::println);
                }
                bad++;
            }
        }
        System.out.println("ModelTest: " + runs + " runs, " + calls + " calls, " + bad + " of the runs unlike");
        if (bad > 0) {
            System.exit(1);
        }
    }

    private void go() {
        int most = 30 + random.nextInt(480);
        while (calls < most && !wrong) {
            turn();
        }
    }

    private void turn() {
        int dice = random.nextInt(100);
        if (dice < 9) {
            tell(worldText(), "world");
        } else if (dice < 14) {
            tell(scriptText(), "script");
            call("run", new long[0]);
            call("ran", new long[] {0});
            call("ran", new long[] {1});
        } else if (dice < 30) {
            useTray();
        } else {
            String name = CALLS[random.nextInt(CALLS.length)];
            if (!isDear(name) || random.nextInt(6) == 0) {
                call(name, arguments(name));
            }
        }
        if (random.nextInt(model.world.n < 4 ? 6 : 20) == 0) {
            readTable();
        }
    }

    private boolean isDear(String name) {
        int all = model.world.all();
        boolean spans = name.equals("parts") || name.equals("share") || name.equals("radical") || name.equals("is");
        return all > 100 && (spans || name.equals("commuting") || name.equals("parted"))
                || name.equals("maps") && all > 20;
    }

    /** The whole TABLE is compared, so that a wrong change is seen at once. */
    private void readTable() {
        int n = model.world.n;
        for (int i = 0; i < n && !wrong; i++) {
            for (int j = i + 1; j < n && !wrong; j++) {
                for (int k = 0; k < n && !wrong && calls < 512; k++) {
                    calls++;
                    if (room.constant(i, j, k) != model.constant(i, j, k)) {
                        history.add("constant(" + i + ", " + j + ", " + k + ") is unlike");
                        wrong = true;
                    }
                }
            }
        }
    }

    // ------------------------------------------------------------------ texts

    private String worldText() {
        int p = new int[] {2, 3, 5, 7, 2, 3}[random.nextInt(6)];
        StringBuilder s = new StringBuilder("prime " + p + "; ");
        if (random.nextInt(3) > 0) {
            String known = KNOWN[random.nextInt(KNOWN.length)];
            int n = known.charAt(5) - '0';
            if (n > Model.limit(p)) {
                s.setLength(0);
                s.append("prime 3; ");
            }
            s.append(p == 2 ? known.replace("2 of", "1 of") : known);
        } else {
            int n = 1 + random.nextInt(Model.limit(p));
            s.append("size ").append(n).append(";");
            int density = 1 + random.nextInt(4);
            for (int i = 0; i < n; i++) {
                for (int j = i + 1; j < n; j++) {
                    if (random.nextInt(4) < density) {
                        s.append(bracketText(p, n, i, j));
                    }
                }
            }
        }
        return random.nextInt(3) == 0 ? spoil(s.toString()) : s.toString();
    }

    private String bracketText(int p, int n, int i, int j) {
        StringBuilder s = new StringBuilder("bracket " + i + " " + j + " gives");
        int some = 1 + random.nextInt((1 << n) - 1);
        for (int k = 0; k < n; k++) {
            if ((some >> k & 1) != 0) {
                s.append(random.nextInt(3) == 0 ? " less" : "").append(' ').append(1 + random.nextInt(p - 1));
                s.append(random.nextBoolean() ? " of " : "of").append(k);
            }
        }
        return s.append(random.nextBoolean() ? ";\n" : " ; ").toString();
    }

    private String spoil(String text) {
        StringBuilder s = new StringBuilder(text);
        int times = 1 + random.nextInt(2);
        for (int t = 0; t < times && s.length() > 0; t++) {
            int at = random.nextInt(s.length());
            switch (random.nextInt(6)) {
                case 0: s.deleteCharAt(at); break;
                case 1: s.insert(at, (char) random.nextInt(256)); break;
                case 2: s.setCharAt(at, ";<>= \n0123456789gends".charAt(random.nextInt(21))); break;
                case 3: s.setLength(at); break;
                case 4: s.insert(at, " " + word() + " "); break;
                default: s.insert(at, random.nextInt(20000)); break;
            }
        }
        return s.toString();
    }

    private String word() {
        String[] words = {"prime", "size", "bracket", "gives", "less", "of", "swap", "scale", "by", "add", "to", "keep",
            "take", "sum", "when", "end", "loop", "stop", "lawful", "abelian", "nilpotent", "solvable", "derived", "same",
            "<", ">", "=", ";", "bracket 0 1 gives 1 of 0;", "end;", "go"};
        return words[random.nextInt(words.length)];
    }

    private String scriptText() {
        StringBuilder s = new StringBuilder();
        steps(s, 0, random.nextInt(12));
        if (random.nextInt(12) == 0) {
            for (int i = 0; i < 27 + random.nextInt(6); i++) {
                s.append("keep ").append(random.nextInt(4)).append(";");
            }
        }
        String text = random.nextInt(4) == 0 ? spoil(s.toString()) : s.toString();
        return text.length() > 300 && random.nextInt(4) > 0 ? text.substring(0, 300) : text;
    }

    private void steps(StringBuilder s, int depth, int many) {
        for (int i = 0; i < many; i++) {
            int n = random.nextInt(4) == 0 ? 5 : model.world.n;
            int kind = random.nextInt(depth > 3 ? 13 : 18);
            if (kind < 2) {
                s.append("swap ").append(random.nextInt(n)).append(' ').append(random.nextInt(n));
            } else if (kind < 5) {
                s.append("scale ").append(random.nextInt(n)).append(" by ").append(1 + random.nextInt(6));
            } else if (kind < 9) {
                s.append("add ").append(random.nextInt(7)).append(" of ").append(random.nextInt(n));
                s.append(" to ").append(random.nextInt(n));
            } else if (kind < 12) {
                s.append(new String[] {"keep", "take", "sum"}[random.nextInt(3)]).append(' ').append(random.nextInt(4));
            } else if (kind < 13) {
                s.append(random.nextInt(3) == 0 ? "stop" : "keep 0");
            } else {
                s.append(random.nextBoolean() ? "when " + test() : "loop " + (1 + random.nextInt(random.nextBoolean() ? 99 : 5)));
                s.append(";");
                steps(s, depth + 1, random.nextInt(4));
                s.append("end");
            }
            s.append(";");
        }
    }

    private String test() {
        char sign = "<>=".charAt(random.nextInt(3));
        switch (random.nextInt(7)) {
            case 0: return "lawful";
            case 1: return "abelian";
            case 2: return "nilpotent";
            case 3: return "solvable";
            case 4: return "derived " + random.nextInt(6) + sign + random.nextInt(6);
            case 5: return "size " + sign + ' ' + random.nextInt(6);
            default: return "same " + random.nextInt(4);
        }
    }

    private void tell(String text, String name) {
        byte[] bytes = new byte[(text.length() + 19) / 20 * 20];
        for (int i = 0; i < text.length(); i++) {
            bytes[i] = (byte) text.charAt(i);
        }
        for (int i = 0; i < bytes.length && !wrong; i += 20) {
            long[] a = new long[5];
            for (int k = 0; k < 20; k++) {
                a[k / 4] = a[k / 4] << 8 | bytes[i + k] & 255;
            }
            for (int k = 0; k < 5; k++) {
                a[k] = (int) a[k];
            }
            call("feed", a);
        }
        history.add("// " + text.replace("\n", "\\n"));
        call(name, new long[] {random.nextInt(15) == 0 ? text.length() + random.nextInt(30) - 10 : text.length()});
        call("fault", new long[] {0});
        call("fault", new long[] {1});
    }

    // ------------------------------------------------------------------ trays

    private void useTray() {
        Model.W w = model.world;
        int tray = random.nextInt(4);
        String name = new String[] {"span", "change", "squeeze", "cocycle", "grow", "rest", "takeOut"}[random.nextInt(7)];
        int need = name.equals("change") ? w.n * w.n : name.equals("squeeze") ? w.n
                : name.equals("cocycle") || name.equals("grow") ? w.n * (w.n - 1) / 2 : random.nextInt(4);
        int spare = random.nextInt(8) == 0 ? random.nextInt(4) - 1 : 0;
        call("tray", new long[] {tray, random.nextInt(8) == 0 ? 0 : 1 + random.nextInt(3), Math.max(0, need + spare)});
        boolean unit = random.nextInt(3) == 0;
        int sparse = 1 + random.nextInt(3);
        for (int i = 0; i < need; i++) {
            long v;
            switch (name) {
                case "change":
                    v = unit ? i / w.n == i % w.n || i % 3 == random.nextInt(12) ? 1 : 0 : random.nextInt(w.p);
                    break;
                case "squeeze":
                    v = sparse == 1 ? 1 + i : random.nextInt(5);
                    break;
                case "cocycle":
                case "grow":
                    v = random.nextInt(3) < sparse ? 0 : random.nextInt(w.p);
                    break;
                default:
                    v = random.nextInt(sparse == 1 ? w.all() : w.p * w.p > w.all() ? w.p : w.p * w.p);
                    break;
            }
            if (random.nextInt(60) == 0) {
                v = new long[] {-1, w.p, w.all(), 21, -21, 20, -20, Long.MIN_VALUE, 1L << 32}[random.nextInt(9)];
            }
            call("write", new long[] {tray, i, v});
        }
        if (name.equals("span")) {
            for (int what = 0; what < 3; what++) {
                call(name, new long[] {tray, need, what});
            }
        } else if (name.equals("rest") || name.equals("takeOut")) {
            call(name, new long[] {tray, need});
        } else {
            call(name, new long[] {tray});
        }
    }

    // ------------------------------------------------------------------ calls

    private long around(int most) {
        int dice = random.nextInt(25);
        if (dice == 0) {
            return -1;
        }
        if (dice == 1) {
            return most;
        }
        if (dice == 2) {
            return random.nextInt();
        }
        return most <= 0 ? 0 : random.nextInt(most);
    }

    private long[] arguments(String name) {
        Model.W w = model.world;
        switch (name) {
            case "tray": return new long[] {around(4), around(4), random.nextInt(6) == 0 ? around(61) : around(9)};
            case "write": return new long[] {around(4), around(8), random.nextInt(3) == 0 ? random.nextLong() : random.nextInt(9)};
            case "read": return new long[] {around(4), around(8)};
            case "pour": return new long[] {around(4), around(5), around(4), around(5), around(4)};
            case "feed": return new long[] {random.nextInt(), random.nextInt(), random.nextInt(), random.nextInt(), random.nextInt()};
            case "world":
            case "script": return new long[] {around(10)};
            case "fault":
            case "ran": return new long[] {around(2)};
            case "many": return new long[] {around(4)};
            case "constant": return new long[] {around(w.n), around(w.n), around(w.n)};
            case "put": return new long[] {around(w.n), around(w.n), around(w.n), around(w.p)};
            case "bracket": return new long[] {around(w.all()), around(w.all())};
            case "failing":
            case "derivations": return new long[] {around(3)};
            case "keep":
            case "take":
            case "sameAs":
            case "parted":
            case "barred":
            case "sum":
            case "change":
            case "squeeze":
            case "cocycle":
            case "grow": return new long[] {around(4)};
            case "span": return new long[] {around(4), around(21), around(3)};
            case "derived":
            case "lower": return new long[] {around(10)};
            case "centralizer":
            case "rank":
            case "power": return new long[] {around(w.all())};
            case "is": return new long[] {around(6)};
            case "radical": return new long[] {around(2)};
            case "parts": return new long[] {around(w.n + 1), around(4)};
            case "classes": return new long[] {around(w.n + 1)};
            case "rest":
            case "takeOut": return new long[] {around(4), around(21)};
            case "tables": return new long[] {random.nextInt(5), around(4), around(2)};
            default: return new long[0];
        }
    }

    private void call(String name, long[] a) {
        // Of 512 calls, two or four are made here: the one that is asked for, status(), and perhaps the FRACTION's.
        if (wrong || calls > 508) {
            return;
        }
        StringBuilder said = new StringBuilder(name).append("(");
        for (int i = 0; i < a.length; i++) {
            said.append(i > 0 ? ", " : "").append(a[i]);
        }
        long got = ofRoom(name, a);
        long due = ofModel(name, a);
        int status = room.status();
        calls += 2;
        said.append(") answered ").append(got).append(", STATUS ").append(status);
        boolean looksAtFraction = name.equals("share") || random.nextInt(20) == 0;
        if (got != due || status != model.status || looksAtFraction && isOtherFraction()) {
            said.append(": the Model says ").append(due).append(", STATUS ").append(model.status);
            said.append(", ").append(model.top).append(" by ").append(model.bottom);
            wrong = true;
        }
        history.add(said.toString());
    }

    private boolean isOtherFraction() {
        calls += 2;
        return room.top() != model.top || room.bottom() != model.bottom;
    }

    private static long truth(boolean b) {
        return b ? 1 : 0;
    }

    private long ofRoom(String name, long[] a) {
        int[] i = new int[5];
        for (int k = 0; k < a.length; k++) {
            i[k] = (int) a[k];
        }
        switch (name) {
            case "tray": return truth(room.tray(i[0], i[1], i[2]));
            case "write": return truth(room.write(i[0], i[1], a[2]));
            case "read": return room.read(i[0], i[1]);
            case "pour": return truth(room.pour(i[0], i[1], i[2], i[3], i[4]));
            case "feed": return room.feed(i[0], i[1], i[2], i[3], i[4]);
            case "world": return room.world(i[0]);
            case "script": return room.script(i[0]);
            case "fault": return room.fault(i[0]);
            case "many": return room.many(i[0]);
            case "constant": return room.constant(i[0], i[1], i[2]);
            case "put": return truth(room.put(i[0], i[1], i[2], i[3]));
            case "bracket": return room.bracket(i[0], i[1]);
            case "lawful": return room.lawful();
            case "failing": return room.failing(i[0]);
            case "keep": return truth(room.keep(i[0]));
            case "take": return truth(room.take(i[0]));
            case "span": return room.span(i[0], i[1], i[2]);
            case "derived": return room.derived(i[0]);
            case "lower": return room.lower(i[0]);
            case "centre": return room.centre();
            case "centralizer": return room.centralizer(i[0]);
            case "is": return room.is(i[0]);
            case "radical": return room.radical(i[0]);
            case "parts": return room.parts(i[0], i[1]);
            case "share": return truth(room.share());
            case "rank": return room.rank(i[0]);
            case "power": return room.power(i[0]);
            case "derivations": return room.derivations(i[0]);
            case "form": return room.form();
            case "classes": return room.classes(i[0]);
            case "commuting": return room.commuting();
            case "maps": return room.maps();
            case "sameAs": return room.sameAs(i[0]);
            case "tries": return room.tries();
            case "parted": return room.parted(i[0]);
            case "change": return truth(room.change(i[0]));
            case "squeeze": return truth(room.squeeze(i[0]));
            case "barred": return room.barred(i[0]);
            case "cocycle": return room.cocycle(i[0]);
            case "grow": return room.grow(i[0]);
            case "sum": return room.sum(i[0]);
            case "rest": return room.rest(i[0], i[1]);
            case "takeOut": return room.takeOut(i[0], i[1]);
            case "tables": return room.tables(i[0], i[1], i[2]);
            case "run": return room.run();
            case "ran": return room.ran(i[0]);
            case "mark": return room.mark();
            case "back": return room.back();
            default: throw new IllegalStateException(name);
        }
    }

    private long ofModel(String name, long[] a) {
        int[] i = new int[5];
        for (int k = 0; k < a.length; k++) {
            i[k] = (int) a[k];
        }
        switch (name) {
            case "tray": return model.tray(i[0], i[1], i[2]);
            case "write": return model.write(i[0], i[1], a[2]);
            case "read": return model.read(i[0], i[1]);
            case "pour": return model.pour(i[0], i[1], i[2], i[3], i[4]);
            case "feed": return model.feed(i[0], i[1], i[2], i[3], i[4]);
            case "world": return model.world(i[0]);
            case "script": return model.script(i[0]);
            case "fault": return model.fault(i[0]);
            case "many": return model.many(i[0]);
            case "constant": return model.constant(i[0], i[1], i[2]);
            case "put": return model.put(i[0], i[1], i[2], i[3]);
            case "bracket": return model.bracket(i[0], i[1]);
            case "lawful": return model.lawful();
            case "failing": return model.failing(i[0]);
            case "keep": return model.keep(i[0]);
            case "take": return model.take(i[0]);
            case "span": return model.span(i[0], i[1], i[2]);
            case "derived": return model.derived(i[0]);
            case "lower": return model.lower(i[0]);
            case "centre": return model.centre();
            case "centralizer": return model.centralizer(i[0]);
            case "is": return model.is(i[0]);
            case "radical": return model.radical(i[0]);
            case "parts": return model.parts(i[0], i[1]);
            case "share": return model.share();
            case "rank": return model.rank(i[0]);
            case "power": return model.power(i[0]);
            case "derivations": return model.derivations(i[0]);
            case "form": return model.form();
            case "classes": return model.classes(i[0]);
            case "commuting": return model.commuting();
            case "maps": return model.maps();
            case "sameAs": return model.sameAs(i[0]);
            case "tries": return model.tries();
            case "parted": return model.parted(i[0]);
            case "change": return model.change(i[0]);
            case "squeeze": return model.squeeze(i[0]);
            case "barred": return model.barred(i[0]);
            case "cocycle": return model.cocycle(i[0]);
            case "grow": return model.grow(i[0]);
            case "sum": return model.sum(i[0]);
            case "rest": return model.rest(i[0], i[1]);
            case "takeOut": return model.takeOut(i[0], i[1]);
            case "tables": return model.tables(i[0], i[1], i[2]);
            case "run": return model.run();
            case "ran": return model.ran(i[0]);
            case "mark": return model.mark();
            case "back": return model.back();
            default: throw new IllegalStateException(name);
        }
    }
}
