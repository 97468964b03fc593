/** Promises 1 to 4 and the text format. */
public final class LoadTest {
    private static final int SYNTAX = LevelNetwork.SYNTAX_ERROR;
    private static final int RANGE = LevelNetwork.RANGE_ERROR;
    private static final int NAME = LevelNetwork.NAME_ERROR;
    private static final int DUPLICATE = LevelNetwork.DUPLICATE_ERROR;
    private static final int COUNT = LevelNetwork.COUNT_ERROR;

    public static void main(String[] args) {
        newObject();
        feeding();
        loading();
        failedLoad();
        replacing();
        emptyTexts();
        levels();
        names();
        points();
        lines();
        setups();
        tests();
        settings();
        counts();
        positions();
        Check.end();
    }

    private static void newObject() {
        LevelNetwork x = new LevelNetwork();
        Check.due("1: levels", x.levelCount(), 0);
        Check.due("1: points", x.pointCount(), 0);
        Check.due("1: lines", x.lineCount(), 0);
        Check.due("1: tests", x.testCount(), 0);
        Check.due("1: tolerance", x.getSetting(LevelNetwork.TOLERANCE), 40);
        Check.due("1: sight", x.getSetting(LevelNetwork.SIGHT), 60);
        Check.due("1: balance", x.getSetting(LevelNetwork.BALANCE), 20);
        Check.due("1: nothing to undo", x.undoCount(), 0);
        Check.due("1: undo", x.undo(), LevelNetwork.NOT_FOUND);
        Check.due("1: not adjusted", x.isAdjusted(), false);
        Check.due("1: an empty buffer", x.load(1), LevelNetwork.BAD_VALUE);
        Check.due("4: no load yet", x.errorPosition(), LevelNetwork.NOT_FOUND);
        LevelNetwork y = new LevelNetwork();
        Check.load(x, "point a;");
        Check.due("1: objects share nothing", y.pointCount(), 0);
    }

    private static void feeding() {
        LevelNetwork x = new LevelNetwork();
        // "point abcdef 7654321", most significant byte first
        Check.due("2: feed", x.feed(0x706f696e, 0x74206162, 0x63646566, 0x20373635, 0x34333231), 20);
        Check.due("2: feed again", x.feed(0x3b202020, 0, 0, 0, -1), 40);
        Check.due("2: the bytes in their order", x.load(21), 1);
        Check.due("2: the name", x.pointNamed(Check.name("abcdef")), 0);
        Check.due("2: the height", x.heldAt(0), 7654321);
        for (int k = 1; k <= 60; k++) {
            Check.due("2: the buffer grows", x.feed(0x20202020, 0x20202020, 0x20202020, 0x20202020, 0x20202020), 20 * k);
        }
        Check.due("2: 1200 bytes are the limit", x.feed(0, 0, 0, 0, 0), LevelNetwork.FULL);
        Check.due("2: nothing is appended then", x.load(1201), LevelNetwork.BAD_VALUE);
        Check.due("2: the buffer stands", x.load(1200), 0);
        Check.due("2: the buffer is empty again", x.feed(0, 0, 0, 0, 0), 20);
        Check.due("2: bytes of 0 are no spaces", x.load(20), SYNTAX);
    }

    private static void loading() {
        LevelNetwork x = new LevelNetwork();
        Check.feed(x, "point a;point b;    ");
        Check.due("3: length below 0", x.load(-1), LevelNetwork.BAD_VALUE);
        Check.due("3: length above the buffer", x.load(21), LevelNetwork.BAD_VALUE);
        Check.due("3: greatest length", x.load(Integer.MAX_VALUE), LevelNetwork.BAD_VALUE);
        Check.due("3: least length", x.load(Integer.MIN_VALUE), LevelNetwork.BAD_VALUE);
        Check.due("3: the buffer stands, only length bytes are read", x.load(8), 1);
        Check.due("3: one point", x.pointCount(), 1);
        Check.due("3: the buffer is emptied", x.load(1), LevelNetwork.BAD_VALUE);
        Check.due("3: length 0", x.load(0), 0);
        Check.due("3: an empty network", x.pointCount(), 0);
        Check.due("3: statements", Check.load(x, "level v 1;point a;set sight 5;point b 3;"), 4);
        StringBuilder longest = new StringBuilder("point a;");
        while (longest.length() < 1199) {
            longest.append(longest.length() % 7 == 0 ? '\n' : ' ');
        }
        Check.due("3: 1200 bytes", Check.load(x, longest + "x"), SYNTAX);
        Check.due("4: at the last byte", x.errorPosition(), 1199);
    }

    private static void failedLoad() {
        LevelNetwork x = Check.network("level v 1;point a 5;point b;line a b v 1 2 3 4;set sight 33;");
        x.setCollimation(0, 77);
        x.adjust(3);
        Check.feed(x, "point z;set sight 3;oops");
        Check.due("3: a text with an error", x.load(24), SYNTAX);
        Check.due("4: its position", x.errorPosition(), 20);
        Check.due("3: the buffer is emptied all the same", x.load(1), LevelNetwork.BAD_VALUE);
        Check.due("4: a load with BAD_VALUE tells no position", x.errorPosition(), 20);
        Check.due("3: the points stand", x.pointCount(), 2);
        Check.due("3: their names stand", x.pointNamed(Check.name("z")), LevelNetwork.NOT_FOUND);
        Check.due("3: the settings stand", x.getSetting(LevelNetwork.SIGHT), 33);
        Check.due("3: the collimation stands", x.collimation(0), 77);
        Check.due("3: the adjusted heights stand", x.isAdjusted(), true);
        Check.due("3: a height stands", x.heightOf(0), 500);
        Check.due("3: the changes stand", x.undoCount(), 2);
        Check.due("3: and can be undone", x.undo(), 1);
        Check.due("3: all of them", x.undo(), 0);
        Check.due("3: undone", x.collimation(0), 1);
        Check.due("3: a good text", Check.load(x, "point a;"), 1);
        Check.due("4: no error any more", x.errorPosition(), LevelNetwork.NOT_FOUND);
    }

    private static void replacing() {
        LevelNetwork x = Check.network("level v 1;point a 5;point b;line a b v 1 2 3 4;"
                + "test v 0 0 1 1 0 0 1 1;set sight 33;set tolerance 3;set balance 3;");
        x.setActive(0, false);
        x.adjust(1);
        Check.load(x, "level w 2;point c;point d;line c d w 5 6 7 8;set balance 4;");
        Check.due("3: levels", x.levelCount(), 1);
        Check.due("3: points", x.pointCount(), 2);
        Check.due("3: lines", x.lineCount(), 1);
        Check.due("3: tests", x.testCount(), 0);
        Check.due("3: a setting that is not given is initial", x.getSetting(LevelNetwork.SIGHT), 60);
        Check.due("3: tolerance too", x.getSetting(LevelNetwork.TOLERANCE), 40);
        Check.due("3: a setting that is given", x.getSetting(LevelNetwork.BALANCE), 4);
        Check.due("3: nothing can be undone", x.undoCount(), 0);
        Check.due("3: undo", x.undo(), LevelNetwork.NOT_FOUND);
        Check.due("3: no adjusted heights", x.isAdjusted(), false);
        Check.due("3: the point is not held", x.heldAt(0), LevelNetwork.NOT_FOUND);
        Check.due("3: the line is active", x.lineProperty(0, 4), 1);
        Check.due("3: the line's setups", x.lineProperty(0, 3), 1);
        Check.due("3: its reading", x.reading(0, 0, 1), 6);
        Check.due("3: old names are gone", x.pointNamed(Check.name("a")), LevelNetwork.NOT_FOUND);
        Check.due("3: new names are there", x.pointNamed(Check.name("d")), 1);
    }

    private static void emptyTexts() {
        Check.good("", 0);
        Check.good(" \n \n", 0);
        Check.bad(";", SYNTAX, 0);
        Check.bad("a", SYNTAX, 0);
        Check.bad("5", SYNTAX, 0);
        Check.bad("down;", SYNTAX, 0);
        Check.bad("sight 5;", SYNTAX, 0);
        Check.bad("tolerance 5;", SYNTAX, 0);
        Check.bad("levels v 0;", SYNTAX, 0);
        Check.bad("leve", SYNTAX, 0);
        Check.bad("pointa;", SYNTAX, 0);
        Check.bad("Level v 0;", SYNTAX, 0);
        Check.bad("\tpoint a;", SYNTAX, 0);
        Check.bad("\rpoint a;", SYNTAX, 0);
        Check.bad("point a;;", SYNTAX, 8);
        Check.bad("point\ta;", SYNTAX, 5);
        for (char sign : new char[] {0, 1, 9, 11, 13, 31, 33, '/', ':', '`', '{', '~', 127, 128, 160, 186, 225, 255}) {
            Check.bad("  " + sign, SYNTAX, 2);
            Check.bad("point a" + sign + ";", SYNTAX, 7);
        }
    }

    private static void levels() {
        Check.bad("level", SYNTAX, 5);
        Check.bad("level ", SYNTAX, 6);
        Check.bad("level ;", SYNTAX, 6);
        Check.bad("level 5;", SYNTAX, 6);
        Check.bad("level v", SYNTAX, 7);
        Check.bad("level v;", SYNTAX, 7);
        Check.bad("level v \n ", SYNTAX, 10);
        Check.bad("level v a;", SYNTAX, 8);
        Check.bad("level v down 5;", SYNTAX, 8);
        Check.bad("level v -5;", SYNTAX, 8);
        Check.bad("level v 5", SYNTAX, 9);
        Check.bad("level v 5 6;", SYNTAX, 10);
        Check.bad("level v 5 up;", SYNTAX, 10);
        Check.bad("level v 5 down", SYNTAX, 14);
        Check.bad("level v 5 down down;", SYNTAX, 15);
        Check.bad("level v 201;", RANGE, 8);
        Check.bad("level v 201 down;", RANGE, 8);
        Check.bad("level v 201", RANGE, 8);
        Check.bad("level v 4294967296;", RANGE, 8);
        Check.bad("level v 18446744073709551616;", RANGE, 8);
        Check.bad("level v 99999999999999999999999999999999999999999999999999;", RANGE, 8);
        Check.due("collimation 0", Check.good("level v 0;", 1).collimation(0), 0);
        Check.due("collimation 200", Check.good("level v 200;", 1).collimation(0), 200);
        Check.due("collimation -200", Check.good("level v 200 down;", 1).collimation(0), -200);
        Check.due("collimation -0", Check.good("level v 0 down;", 1).collimation(0), 0);
        Check.due("no space is needed", Check.good("level v7down;", 1).collimation(0), -7);
        Check.due("zeros before", Check.good("level v 000000000000000000000000000000042;", 1).collimation(0), 42);
        Check.due("newlines", Check.good("level\nv\n\n9 \n down\n;\n", 1).collimation(0), -9);
        Check.bad("level v 5;level v 5;", DUPLICATE, 16);
        Check.bad("level v 5;point v;", DUPLICATE, 16);
        Check.bad("point v;level v 999;", DUPLICATE, 14);
        Check.bad("point v 1;point v 99999999;", DUPLICATE, 16);
        Check.bad("level v 999;level v", RANGE, 8);
    }

    private static void names() {
        for (String word : new String[] {"level", "down", "point", "line", "test", "set", "sight",
            "balance", "tolerance", "abcdefg", "abcdefghijklmnopqrstuvwxyz"}) {
            Check.bad("level " + word + " 0;", SYNTAX, 6);
            Check.bad("point " + word + ";", SYNTAX, 6);
            Check.bad("level v 0;point a;line " + word + " a v 0 0 1 1;", SYNTAX, 23);
            Check.bad("level v 0;point a;line a " + word + " v 0 0 1 1;", SYNTAX, 25);
            Check.bad("level v 0;point a;point b;line a b " + word + " 0 0 1 1;", SYNTAX, 35);
            Check.bad("level v 0;test " + word + " 0 0 1 1 0 0 1 1;", SYNTAX, 15);
        }
        for (String word : new String[] {"levels", "lev", "downs", "dow", "points", "lines", "tests", "sets",
            "sights", "a", "z", "abcdef", "zzzzzz", "tolera", "balanc", "leve", "se", "tes"}) {
            LevelNetwork x = Check.good("point " + word + ";", 1);
            Check.due("10: the name " + word, x.pointNamed(Check.name(word)), 0);
            x = Check.good("level " + word + " 0;", 1);
            Check.due("11: the name " + word, x.levelNamed(Check.name(word)), 0);
        }
    }

    private static void points() {
        Check.bad("point", SYNTAX, 5);
        Check.bad("point;", SYNTAX, 5);
        Check.bad("point a", SYNTAX, 7);
        Check.bad("point a b;", SYNTAX, 8);
        Check.bad("point a down;", SYNTAX, 8);
        Check.bad("point a 5 6;", SYNTAX, 10);
        Check.bad("point a 5", SYNTAX, 9);
        Check.bad("point a 10000000;", RANGE, 8);
        Check.bad("point a 4294967297;", RANGE, 8);
        Check.bad("point a;b", SYNTAX, 8);
        Check.due("15: not held", Check.good("point a;", 1).heldAt(0), LevelNetwork.NOT_FOUND);
        Check.due("15: held at 0", Check.good("point a 0;", 1).heldAt(0), 0);
        Check.due("15: held at the top", Check.good("point a 9999999;", 1).heldAt(0), 9999999);
        Check.due("15: no space needed", Check.good("point a5;", 1).heldAt(0), 5);
    }

    private static void lines() {
        String before = "level v 0;point a;point b;";
        Check.good(before + "line a b v 0 0 1 1;", 4);
        Check.good(before + "line a b v 40000 40000 100 100;", 4);
        Check.good(before + "line b a v00 00 001 1;", 4);
        Check.bad(before + "line", SYNTAX, 30);
        Check.bad(before + "line 5", SYNTAX, 31);
        Check.bad(before + "line c b v 0 0 1 1;", NAME, 31);
        Check.bad(before + "line v b v 0 0 1 1;", NAME, 31);
        Check.bad(before + "line a", SYNTAX, 32);
        Check.bad(before + "line a c v 0 0 1 1;", NAME, 33);
        Check.bad(before + "line a v v 0 0 1 1;", NAME, 33);
        Check.bad(before + "line a a v 0 0 1 1;", DUPLICATE, 33);
        Check.bad(before + "line a 7 v 0 0 1 1;", SYNTAX, 33);
        Check.bad(before + "line a b c 0 0 1 1;", NAME, 35);
        Check.bad(before + "line a b a 0 0 1 1;", NAME, 35);
        Check.bad(before + "line a b;", SYNTAX, 34);
        Check.bad(before + "line a b 0 0 1 1;", SYNTAX, 35);
        Check.bad("level v 0;point a;line a b v 0 0 1 1;point b;", NAME, 25);
        Check.bad("point a;point b;line a b v 0 0 1 1;level v 0;", NAME, 25);
    }

    private static void setups() {
        String before = "level v 0;point a;point b;line a b v";
        Check.bad(before, SYNTAX, 36);
        Check.bad(before + ";", SYNTAX, 36);
        Check.bad(before + " 0", SYNTAX, 38);
        Check.bad(before + " 0;", SYNTAX, 38);
        Check.bad(before + " 0 0;", SYNTAX, 40);
        Check.bad(before + " 0 0 1;", SYNTAX, 42);
        Check.bad(before + " 0 0 1 1", SYNTAX, 44);
        Check.bad(before + " 0 0 1 1 5;", SYNTAX, 46);
        Check.bad(before + " 0 0 1 1 a;", SYNTAX, 45);
        Check.bad(before + " 0 0 1 1 5 5 1;", SYNTAX, 50);
        Check.bad(before + " 40001 0 1 1;", RANGE, 37);
        Check.bad(before + " 0 40001 1 1;", RANGE, 39);
        Check.bad(before + " 0 0 0 1;", RANGE, 41);
        Check.bad(before + " 0 0 101 1;", RANGE, 41);
        Check.bad(before + " 0 0 1 0;", RANGE, 43);
        Check.bad(before + " 0 0 1 101;", RANGE, 43);
        Check.bad(before + " 0 0 1 1 40001;", RANGE, 45);
        String eight = before + " 1 2 3 4".repeat(8);
        LevelNetwork x = Check.good(eight + ";", 4);
        Check.due("16: eight setups", x.lineProperty(0, 3), 8);
        Check.due("17: the last one", x.reading(0, 7, 3), 4);
        Check.bad(eight + " 0 0 1 1;", COUNT, 101);
        Check.bad(eight + " 40000", COUNT, 101);
        Check.bad(eight + " 40001", RANGE, 101);
        Check.bad(eight + " a", SYNTAX, 101);
        Check.bad(eight, SYNTAX, 100);
    }

    private static void tests() {
        String before = "level v 0;point a;";
        Check.good(before + "test v 0 0 1 1 0 0 1 1;", 3);
        Check.good(before + "test v 40000 40000 100 100 40000 40000 100 100;", 3);
        Check.bad(before + "test", SYNTAX, 22);
        Check.bad(before + "test;", SYNTAX, 22);
        Check.bad(before + "test a 0 0 1 1 0 0 1 1;", NAME, 23);
        Check.bad(before + "test w 0 0 1 1 0 0 1 1;", NAME, 23);
        Check.bad(before + "test v;", SYNTAX, 24);
        Check.bad(before + "test v 0 0 1 1;", SYNTAX, 32);
        Check.bad(before + "test v 0 0 1 1 0 0 1;", SYNTAX, 38);
        Check.bad(before + "test v 0 0 1 1 0 0 1 1 0;", SYNTAX, 41);
        Check.bad(before + "test v 0 0 1 1 0 0 1 1", SYNTAX, 40);
        for (int k = 0; k < 8; k++) {
            boolean distance = k % 4 >= 2;
            Check.bad(before + "test v" + numbers(k, distance ? "101" : "40001"), RANGE, 25 + 2 * k);
            Check.bad(before + "test v" + numbers(k, "x"), SYNTAX, 25 + 2 * k);
            if (distance) {
                Check.bad(before + "test v" + numbers(k, "0"), RANGE, 25 + 2 * k);
            }
        }
    }

    private static String numbers(int place, String other) {
        StringBuilder all = new StringBuilder();
        for (int k = 0; k < 8; k++) {
            all.append(' ').append(k == place ? other : "1");
        }
        return all + ";";
    }

    private static void settings() {
        String[] names = {"tolerance", "sight", "balance"};
        int[] least = {0, 1, 0};
        int[] greatest = {500, 100, 800};
        for (int k = 0; k < 3; k++) {
            String set = "set " + names[k];
            int place = set.length() + 1;
            Check.due("12: least " + names[k], Check.good(set + " " + least[k] + ";", 1).getSetting(k), least[k]);
            Check.due("12: greatest " + names[k], Check.good(set + " " + greatest[k] + ";", 1).getSetting(k), greatest[k]);
            Check.bad(set + " " + (greatest[k] + 1) + ";", RANGE, place);
            Check.bad(set + ";", SYNTAX, place - 1);
            Check.bad(set + " down;", SYNTAX, place);
            Check.bad(set + " 5 6;", SYNTAX, place + 2);
            Check.bad(set + " 5", SYNTAX, place + 1);
            Check.bad(set + " 5;" + set + " 999;", DUPLICATE, place + 2 + 5 - 1);
            Check.bad(set + "s 5;", SYNTAX, 4);
        }
        Check.bad("set sight 0;", RANGE, 10);
        Check.bad("set", SYNTAX, 3);
        Check.bad("set;", SYNTAX, 3);
        Check.bad("set a 5;", SYNTAX, 4);
        Check.bad("set level 5;", SYNTAX, 4);
        Check.bad("set 5;", SYNTAX, 4);
        Check.bad("set toleranc 5;", SYNTAX, 4);
        LevelNetwork x = Check.good("set balance 1;set sight 2;set tolerance 3;", 3);
        Check.due("a setting may be given again in the next text", Check.load(x, "set sight 4;"), 1);
    }

    private static void counts() {
        StringBuilder text = new StringBuilder();
        for (int k = 0; k < 3; k++) {
            text.append("level ").append((char) ('a' + k)).append(" 1;");
        }
        Check.good(text.toString(), 3);
        Check.bad(text + "level d 1;", COUNT, 30);
        Check.bad(text + "level", COUNT, 30);
        text.setLength(0);
        for (int k = 0; k < 16; k++) {
            text.append("point ").append((char) ('a' + k)).append(';');
        }
        Check.good(text.toString(), 16);
        Check.bad(text + " point q;", COUNT, 129);
        Check.bad(text + "point a;", COUNT, 128);
        String three = "level v 1;point a;point b;";
        String lines = three + "line a b v 0 0 1 1;".repeat(20);
        Check.due("7: twenty lines", Check.good(lines, 23).lineCount(), 20);
        Check.bad(lines + "line a b v 0 0 1 1;", COUNT, 406);
        Check.bad(lines + "line ;", COUNT, 406);
        String tests = three + "test v 0 0 1 1 0 0 1 1;".repeat(6);
        Check.due("8: six tests", Check.good(tests, 9).testCount(), 6);
        Check.bad(tests + "test v 0 0 1 1 0 0 1 1;", COUNT, 164);
        Check.bad(tests + "test", COUNT, 164);
    }

    private static void positions() {
        LevelNetwork x = new LevelNetwork();
        Check.feed(x, "point a;point b;    ");
        Check.due("3: a text that ends too early", x.load(7), SYNTAX);
        Check.due("4: the position is its length", x.errorPosition(), 7);
        Check.bad("point a 99999999;level 1;", RANGE, 8);
        Check.bad("\n\n point a\n\n99999999;", RANGE, 12);
    }
}
