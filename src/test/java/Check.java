/** Compares answers with what is due, prints what differs, and ends the test. */
final class Check {
    static final long NO_HEIGHT = Long.MIN_VALUE;

    private static int wrong = 0;
    private static int looked = 0;
    /** What the answers are looked at for; stands before what is told of a wrong one. */
    private static String about = "";

    private Check() {
    }

    interface Call {
        void run();
    }

    static void about(String text) {
        about = text.isEmpty() ? "" : text + " :: ";
    }

    static int looked() {
        return looked;
    }

    static void due(String what, long got, long want) {
        looked++;
        if (got != want) {
            tell(what + ": answered " + got + ", due is " + want);
        }
    }

    private static void tell(String what) {
        wrong++;
        System.out.println(about + what);
    }

    static void due(String what, boolean got, boolean want) {
        due(what, got ? 1 : 0, want ? 1 : 0);
    }

    /** The call is due to throw exactly an IndexOutOfBoundsException, none of the machine's own. */
    static void refused(String what, Call call) {
        looked++;
        String thrown = "nothing";
        try {
            call.run();
        } catch (RuntimeException e) {
            thrown = e.getClass().getSimpleName();
        }
        if (!thrown.equals("IndexOutOfBoundsException")) {
            tell(what + ": threw " + thrown + ", due is IndexOutOfBoundsException");
        }
    }

    static void fail(String what) {
        looked++;
        tell(what);
    }

    /** Feeds a text; its end is filled up with spaces that load does not read. */
    static void feed(LevelNetwork x, String text) {
        for (int at = 0; at < text.length(); at += 20) {
            x.feed(four(text, at), four(text, at + 4), four(text, at + 8), four(text, at + 12),
                    four(text, at + 16));
        }
    }

    private static int four(String text, int at) {
        int four = 0;
        for (int k = at; k < at + 4; k++) {
            four = four << 8 | (k < text.length() ? text.charAt(k) : ' ');
        }
        return four;
    }

    static int load(LevelNetwork x, String text) {
        feed(x, text);
        return x.load(text.length());
    }

    static LevelNetwork network(String text) {
        LevelNetwork x = new LevelNetwork();
        int result = load(x, text);
        if (result < 0) {
            fail("load answered " + result + " at " + x.errorPosition() + " for " + text);
        }
        return x;
    }

    /** A new object that reads the text; so many statements are due. */
    static LevelNetwork good(String text, int statements) {
        LevelNetwork x = new LevelNetwork();
        due("load of " + text, load(x, text), statements);
        due("no error in " + text, x.errorPosition(), LevelNetwork.NOT_FOUND);
        return x;
    }

    /** The text has an error. */
    static void bad(String text, int code, int position) {
        LevelNetwork x = new LevelNetwork();
        due("load of " + text, load(x, text), code);
        due("position of the error of " + text, x.errorPosition(), position);
        due("points after " + text, x.pointCount(), 0);
        due("sight after " + text, x.getSetting(LevelNetwork.SIGHT), 60);
    }

    /** A name as the face gives it. */
    static int name(String word) {
        int letters = 0;
        for (int k = 0; k < 6; k++) {
            letters = letters << 5 | (k < word.length() ? word.charAt(k) - 'a' + 1 : 0);
        }
        return letters;
    }

    static void end() {
        System.out.println(looked + " answers looked at, " + wrong + " wrong");
        if (wrong != 0 || looked == 0) {
            System.exit(1);
        }
    }
}
