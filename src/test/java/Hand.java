/** What the hand-written tests share: it brings texts to a room, and counts answers that are not as due. */
final class Hand {
    private static int wrong;
    private static int asked;
    private static String about = "";

    private Hand() {
    }

    static void about(String what) {
        about = what;
    }

    static void due(String call, long got, long want) {
        asked++;
        if (got != want) {
            wrong++;
            System.out.println(about + ": " + call + " answered " + got + ", due is " + want);
        }
    }

    static void due(String call, boolean got, boolean want) {
        due(call, got ? 1 : 0, want ? 1 : 0);
    }

    /** A call that must be refused: it gives NONE, or 0 for false, and a STATUS. */
    static void refused(BracketRoom room, String call, long got, int status) {
        due(call, got, BracketRoom.NONE);
        due("status() after " + call, room.status(), status);
    }

    static void refused(BracketRoom room, String call, boolean got, int status) {
        due(call, got, false);
        due("status() after " + call, room.status(), status);
    }

    static void granted(BracketRoom room, String call, long got, long want) {
        due(call, got, want);
        due("status() after " + call, room.status(), 0);
    }

    static void granted(BracketRoom room, String call, boolean got) {
        due(call, got, true);
        due("status() after " + call, room.status(), 0);
    }

    /** The text's bytes come to the tape, with blanks behind them up to a whole feed(). */
    static void feed(BracketRoom room, String text) {
        for (int from = 0; from < text.length(); from += 20) {
            int[] five = new int[5];
            for (int k = 0; k < 20; k++) {
                int c = from + k < text.length() ? text.charAt(from + k) : ' ';
                five[k / 4] = five[k / 4] << 8 | c & 255;
            }
            room.feed(five[0], five[1], five[2], five[3], five[4]);
        }
    }

    static int world(BracketRoom room, String text) {
        feed(room, text);
        return room.world(text.length());
    }

    static int script(BracketRoom room, String text) {
        feed(room, text);
        return room.script(text.length());
    }

    static BracketRoom room(String text) {
        BracketRoom room = new BracketRoom();
        int size = world(room, text);
        if (size < 1) {
            due("world() of " + text, size, 1);
        }
        return room;
    }

    static void fill(BracketRoom room, int tray, int sort, long... numbers) {
        due("tray()", room.tray(tray, sort, numbers.length), true);
        for (int i = 0; i < numbers.length; i++) {
            due("write()", room.write(tray, i, numbers[i]), true);
        }
    }

    /** Ends the test with exit code 1 if an answer was wrong. */
    static void end(String name) {
        System.out.println(name + ": " + asked + " answers, " + wrong + " not as due");
        if (wrong > 0) {
            System.exit(1);
        }
    }
}
