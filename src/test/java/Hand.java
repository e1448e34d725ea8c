import java.util.function.Predicate;
import java.util.function.Supplier;
import java.util.function.ToLongFunction;

/** What the hand-written tests share: it brings texts to a room, and counts answers that are not as due. */
final class Hand {
    private static int wrong;
    private static int asked;
    private static String about = "";

    private Hand() {
    }

    static void about(String what) {
        about = what;
    }

    static void due(String call, long got, long want) {
        asked++;
        if (got != want) {
            wrong++;
            System.out.println(about + ": " + call + " answered " + got + ", due is " + want);
        }
    }

    static void due(String call, boolean got, boolean want) {
        due(call, got ? 1 : 0, want ? 1 : 0);
    }

    /** A call that must be refused: it gives NONE, or 0 for false, and a STATUS. */
    static void refused(BracketRoom room, String call, long got, int status) {
        due(call, got, BracketRoom.NONE);
        due("status() after " + call, room.status(), status);
    }

    static void refused(BracketRoom room, String call, boolean got, int status) {
        due(call, got, false);
        due("status() after " + call, room.status(), status);
    }

    static void granted(BracketRoom room, String call, long got, long want) {
        due(call, got, want);
        due("status() after " + call, room.status(), 0);
    }

    static void granted(BracketRoom room, String call, boolean got) {
        due(call, got, true);
        due("status() after " + call, room.status(), 0);
    }

    /** A call that must be refused and change nothing that can be asked for but the STATUS. */
    static void kept(Supplier<BracketRoom> maker, String call, int status, ToLongFunction<BracketRoom> made) {
        BracketRoom room = maker.get();
        refused(room, call, made.applyAsLong(room), status);
        due("what is seen behind " + call, seen(room).equals(seen(maker.get())), true);
    }

    static void keptFalse(Supplier<BracketRoom> maker, String call, int status, Predicate<BracketRoom> made) {
        BracketRoom room = maker.get();
        refused(room, call, made.test(room), status);
        due("what is seen behind " + call, seen(room).equals(seen(maker.get())), true);
    }

    /** All that can be asked for: FAULT, FRACTION, what ran, TRAYS, TABLE, SHELVES, MARKS, SCRIPT, how long the tape is. */
    static String seen(BracketRoom room) {
        StringBuilder s = new StringBuilder();
        s.append(room.fault(0)).append(' ').append(room.fault(1)).append(' ');
        s.append(room.top()).append('/').append(room.bottom()).append(' ');
        s.append(room.tries()).append(' ').append(room.ran(0)).append(' ').append(room.ran(1)).append('\n');
        for (int tray = 0; tray < 4; tray++) {
            for (int place = 0; place <= 60; place++) {
                long v = room.read(tray, place);
                s.append(room.status() == 0 ? v : room.status() == 3 ? "missing" : "end").append(' ');
                if (room.status() != 0) {
                    break;
                }
            }
        }
        s.append('\n');
        table(room, s);
        for (int shelf = 0; shelf < 4; shelf++) {
            if (room.take(shelf)) {
                s.append("shelf ").append(shelf).append(' ');
                table(room, s);
            }
        }
        s.append("SCRIPT ").append(room.run()).append(' ').append(room.ran(0)).append(' ');
        table(room, s);
        while (room.back() >= 0) {
            s.append("MARK ");
            table(room, s);
        }
        return s.append("tape ").append(room.feed(0, 0, 0, 0, 0)).toString();
    }

    static String table(BracketRoom room) {
        StringBuilder s = new StringBuilder();
        table(room, s);
        return s.toString();
    }

    private static void table(BracketRoom room, StringBuilder s) {
        int n = room.many(1);
        s.append(room.many(0)).append(' ').append(n).append(' ').append(room.many(2)).append(' ').append(room.many(3));
        for (int i = 0; i < n; i++) {
            for (int j = i + 1; j < n; j++) {
                for (int k = 0; k < n; k++) {
                    int c = room.constant(i, j, k);
                    if (c != 0) {
                        s.append(" [").append(i).append(' ').append(j).append("] ").append(c).append(" of ").append(k);
                    }
                }
            }
        }
        s.append('\n');
    }

    /** The text's bytes come to the tape, with blanks behind them up to a whole feed(). */
    static void feed(BracketRoom room, String text) {
        for (int from = 0; from < text.length(); from += 20) {
            int[] five = new int[5];
            for (int k = 0; k < 20; k++) {
                int c = from + k < text.length() ? text.charAt(from + k) : ' ';
                five[k / 4] = five[k / 4] << 8 | c & 255;
            }
            room.feed(five[0], five[1], five[2], five[3], five[4]);
        }
    }

    static int world(BracketRoom room, String text) {
        feed(room, text);
        return room.world(text.length());
    }

    static int script(BracketRoom room, String text) {
        feed(room, text);
        return room.script(text.length());
    }

    static BracketRoom room(String text) {
        BracketRoom room = new BracketRoom();
        int size = world(room, text);
        if (size < 1) {
            due("world() of " + text, size, 1);
        }
        return room;
    }

    static void fill(BracketRoom room, int tray, int sort, long... numbers) {
        due("tray()", room.tray(tray, sort, numbers.length), true);
        for (int i = 0; i < numbers.length; i++) {
            due("write()", room.write(tray, i, numbers[i]), true);
        }
    }

    /** Ends the test with exit code 1 if an answer was wrong. */
    static void end(String name) {
        System.out.println(name + ": " + asked + " answers, " + wrong + " not as due");
        if (wrong > 0) {
            System.exit(1);
        }
    }
}
