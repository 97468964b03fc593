/** NETWORK, RISES, TESTS and promises 5 to 25, sentence by sentence. */
final class LineEdges {
    private static final int COUNT = LevelNetwork.COUNT_ERROR;
    private static final int RANGE = LevelNetwork.RANGE_ERROR;
    private static final String THREE = "level u 0;point a;point b;";
    private static final String LINE = "line a b u 0 0 1 1;";
    private static final String TEST = "test u 0 0 1 1 0 0 1 1;";
    private static final int[] WRONG_WHATS = {Edge.MIN, -32, -3, -2, -1, 31, 32, 33, 256, 65536, Edge.MAX};

    private LineEdges() {
    }

    static void all() {
        network();
        rises();
        tests();
        counts();
        names();
        settings();
        levelsAndTests();
        points();
        properties();
        readings();
        steps();
        measures();
        turning();
        pairs();
    }

    private static LevelNetwork line(String setups) {
        return Check.network(THREE + "line a b u " + setups + ";");
    }

    private static LevelNetwork line(int collimation, String setups) {
        String down = collimation < 0 ? " down" : "";
        return Check.network("level u " + Math.abs(collimation) + down + ";point a;point b;line a b u " + setups + ";");
    }

    /** The setup eight times. */
    private static String eight(String setup) {
        return (setup + " ").repeat(8).trim();
    }

    // ---- NETWORK

    private static void network() {
        Edge.under("NETWORK");
        Edge.says("There are at most 3 levels", () -> {
            Check.due("three", Check.good(Edge.levels(3), 3).levelCount(), 3);
            Check.bad(Edge.levels(3) + "level x 0;", COUNT, 30);
        });
        Edge.says("16 points", () -> {
            Check.due("sixteen", Check.good(Edge.points(16), 16).pointCount(), 16);
            Check.bad(Edge.points(16) + "point q;", COUNT, 128);
        });
        Edge.says("20 lines", () -> {
            Check.due("twenty", Check.good(THREE + LINE.repeat(20), 23).lineCount(), 20);
            Check.bad(THREE + LINE.repeat(21), COUNT, 26 + 20 * 19);
        });
        Edge.says("and 6 tests", () -> {
            Check.due("six", Check.good(THREE + TEST.repeat(6), 9).testCount(), 6);
            Check.bad(THREE + TEST.repeat(7), COUNT, 26 + 6 * 23);
        });
        Edge.says("each indexed from 0 in the order in which they are declared.", LineEdges::order);
        Edge.says("A level (the instrument) has a collimation (-200 to 200)", () -> {
            Check.due("least", Check.network("level u 200 down;").collimation(0), -200);
            Check.due("greatest", Check.network("level u 200;").collimation(0), 200);
            Check.bad("level u 201;", RANGE, 8);
            Check.bad("level u 201 down;", RANGE, 8);
        });
        Edge.says("by so many tenths of a millimetre its line of sight rises on 100 metres.", () -> {
            // From 100 to 99 metres the sight rises by 1 metre's part; the back reading is too great by it.
            Check.due("rising", line(200, "0 0 100 99").riseOf(0), -200);
            Check.due("falling", line(-200, "0 0 100 99").riseOf(0), 200);
            Check.due("level", line(0, "0 0 100 99").riseOf(0), 0);
        });
        Edge.says("A point can be held at a height (0 to 9999999 tenths of a millimetre).", () -> {
            LevelNetwork x = Check.network("point a 0;point b 9999999;point c;");
            Check.due("least", x.heldAt(0), 0);
            Check.due("greatest", x.heldAt(1), 9999999);
            Check.due("not held", x.heldAt(2), Edge.NOT_FOUND);
            Check.due("in tenths", x.provisional(1), 999999900);
            Check.bad("point a 10000000;", RANGE, 8);
        });
        Edge.says("A line leads from a point to another one", () -> {
            Check.bad(THREE + "line a a u 0 0 1 1;", LevelNetwork.DUPLICATE_ERROR, 33);
            LevelNetwork x = Check.network(THREE + "line b a u 0 0 1 1;");
            Check.due("from", x.lineProperty(0, 0), 1);
            Check.due("to", x.lineProperty(0, 1), 0);
        });
        Edge.says("is measured with a level", () -> {
            LevelNetwork x = Check.network("level u 10;level v 20;level w 30;point a;point b;line a b w 0 0 1 3;");
            Check.due("which one", x.lineProperty(0, 2), 2);
            Check.due("its collimation", x.riseOf(0), 60);
        });
        Edge.says("is active or not (active at first)", () -> {
            LevelNetwork x = Check.network(THREE + LINE);
            Check.due("at first", x.lineProperty(0, 4), 1);
            x.setActive(0, false);
            Check.due("not active", x.lineProperty(0, 4), 0);
            Check.load(x, THREE + LINE);
            Check.due("at first, in place of one that is not", x.lineProperty(0, 4), 1);
        });
        Edge.says("and has 1 to 8 setups.", () -> {
            Check.bad(THREE + "line a b u;", LevelNetwork.SYNTAX_ERROR, 36);
            Check.due("one", line("0 0 1 1").lineProperty(0, 3), 1);
            Check.due("eight", line(eight("0 0 1 1")).lineProperty(0, 3), 8);
            Check.bad(THREE + "line a b u " + eight("0 0 1 1") + " 0 0 1 1;", COUNT, 26 + 11 + 8 * 8);
            Check.due("a ninth", line(eight("0 0 1 1")).addSetup(0, 0, 0, 1, 1), Edge.FULL);
        });
        Edge.says("A setup has a back reading and a fore reading (0 to 40000 tenths of a millimetre)", () -> {
            LevelNetwork x = line("0 40000 1 1 40000 0 1 1");
            Check.due("least back", x.reading(0, 0, 0), 0);
            Check.due("greatest fore", x.reading(0, 0, 1), 40000);
            Check.due("greatest back", x.reading(0, 1, 0), 40000);
            Check.due("least fore", x.reading(0, 1, 1), 0);
            Check.due("in tenths", x.stepOf(0, 0), -4000000);
            Check.bad(THREE + "line a b u 40001 0 1 1;", RANGE, 37);
            Check.bad(THREE + "line a b u 0 40001 1 1;", RANGE, 39);
        });
        Edge.says("and the distances of both (1 to 100 metres).", () -> {
            LevelNetwork x = line("0 0 1 100 0 0 100 1");
            Check.due("least back distance", x.reading(0, 0, 2), 1);
            Check.due("greatest fore distance", x.reading(0, 0, 3), 100);
            Check.due("greatest back distance", x.reading(0, 1, 2), 100);
            Check.due("least fore distance", x.reading(0, 1, 3), 1);
            Check.bad(THREE + "line a b u 0 0 0 1;", RANGE, 41);
            Check.bad(THREE + "line a b u 0 0 101 1;", RANGE, 41);
            Check.bad(THREE + "line a b u 0 0 1 0;", RANGE, 43);
            Check.bad(THREE + "line a b u 0 0 1 101;", RANGE, 43);
        });
        Edge.says("Between two setups of a line there is a turning point.", () -> {
            LevelNetwork x = Check.network("level u 0;point a 0;point b;line a b u 3 0 1 1 4 0 1 1;");
            Check.due("between both", x.turningHeight(0, 0), 300);
            Check.due("behind both is b", x.turningHeight(0, 1), x.provisional(1));
            Check.due("it is no point", x.pointCount(), 2);
        });
        Edge.says("The settings, with their ranges and initial values, are TOLERANCE (0 to 500, initially 40)",
                () -> setting("tolerance", LevelNetwork.TOLERANCE, 0, 500, 40));
        Edge.says("SIGHT (1 to 100, initially 60)", () -> setting("sight", LevelNetwork.SIGHT, 1, 100, 60));
        Edge.says("and BALANCE (0 to 800, initially 20).", () -> setting("balance", LevelNetwork.BALANCE, 0, 800, 20));
    }

    private static void order() {
        LevelNetwork x = Check.network("point d;level w 1;point a;level u 2;line a d w 3 0 1 1;test u 0 0 1 1 0 0 1 1;"
                + "point c 9;line d a u 4 0 1 1;level v 3;line c d v 5 0 1 1;test v 0 0 1 1 0 0 1 1;");
        String levels = "wuv";
        String points = "dac";
        for (int k = 0; k < 3; k++) {
            Check.due("level " + k, x.levelNamed(Check.name("" + levels.charAt(k))), k);
            Check.due("collimation of level " + k, x.collimation(k), k + 1);
            Check.due("point " + k, x.pointNamed(Check.name("" + points.charAt(k))), k);
            Check.due("line " + k, x.reading(k, 0, 0), 3 + k);
        }
        Check.due("point 2 is held", x.heldAt(2), 9);
        Check.due("test 0", x.testNumber(0, 0), 1);
        Check.due("test 1", x.testNumber(1, 0), 2);
    }

    private static void setting(String word, int setting, int least, int greatest, int initial) {
        String set = "set " + word + " ";
        Check.due("initially", new LevelNetwork().getSetting(setting), initial);
        Check.due("initially in a text", Check.network("point a;").getSetting(setting), initial);
        Check.due("least", Check.network(set + least + ";").getSetting(setting), least);
        Check.due("greatest", Check.network(set + greatest + ";").getSetting(setting), greatest);
        Check.bad(set + (greatest + 1) + ";", RANGE, set.length());
        LevelNetwork x = new LevelNetwork();
        Check.due("too small", x.setSetting(setting, least - 1), Edge.BAD_VALUE);
        Check.due("too great", x.setSetting(setting, greatest + 1), Edge.BAD_VALUE);
        Check.due("set to the least", x.setSetting(setting, least), initial);
        Check.due("set to the greatest", x.setSetting(setting, greatest), least);
        if (least > 0) {
            Check.bad(set + (least - 1) + ";", RANGE, set.length());
        }
    }

    // ---- RISES

    private static void rises() {
        Edge.under("RISES");
        Edge.says("Rises and all other heights are in thousandths of a millimetre.", () -> {
            LevelNetwork x = Check.network("level u 0;point a 1;point b;line a b u 1 0 1 1;");
            Check.due("a rise of a tenth", x.riseOf(0), 100);
            Check.due("a step of a tenth", x.stepOf(0, 0), 100);
            Check.due("held at a tenth", x.provisional(0), 100);
            Check.due("two tenths", x.turningHeight(0, 0), 200);
            x.adjust(1);
            Check.due("adjusted", x.heightOf(1), 200);
        });
        Edge.says("The rise of a setup is 100 times (back reading minus fore reading) minus the collimation of the level"
                + " times (back distance minus fore distance).", () -> {
            Check.due("plain", line(7, "1234 1000 30 20").stepOf(0, 0), 23400 - 70);
            Check.due("level down", line(-7, "1000 1234 30 20").stepOf(0, 0), -23400 + 70);
            Check.due("greatest", line(200, "40000 0 1 100").stepOf(0, 0), 4019800);
            Check.due("least", line(200, "0 40000 100 1").stepOf(0, 0), -4019800);
            Check.due("equal distances", line(200, "5 5 77 77").stepOf(0, 0), 0);
        });
        Edge.says("The rise of a line is the sum of the rises of its setups", () -> {
            Check.due("one", line(1, "5 3 10 20").riseOf(0), 210);
            Check.due("two", line(1, "5 3 10 20 1 9 40 10").riseOf(0), 210 - 830);
            Check.due("eight", line(200, eight("40000 0 1 100")).riseOf(0), 32158400);
            Check.due("each of eight", line("1 0 1 1 0 20 1 1 300 0 1 1 0 4000 1 1 7 0 1 1 0 60 1 1 500 0 1 1 0 3000 1 1").riseOf(0),
                    100 * (1 - 20 + 300 - 4000 + 7 - 60 + 500 - 3000));
        });
        Edge.says("from its second point to its first one the rise is that with the opposite sign.", () -> {
            LevelNetwork x = Check.network("level u 0;point a;point b 100;line a b u 9 2 1 1;");
            Check.due("forwards", x.riseBetween(0, 1), 700);
            Check.due("backwards", x.riseBetween(1, 0), -700);
            Check.due("the height of the first point", x.provisional(0), 10000 - 700);
        });
        Edge.says("The length of a line is the sum of all distances of its setups.", () -> {
            Check.due("shortest", line("0 0 1 1").lineProperty(0, 5), 2);
            Check.due("longest", line(eight("0 0 100 100")).lineProperty(0, 5), 1600);
            Check.due("each of four", line("0 0 1 20 0 0 3 50").lineProperty(0, 5), 74);
        });
        Edge.says("Its weight is 1000000 divided by its length, rounded down.", () -> {
            int[][] due = {{1, 1, 500000}, {1, 2, 333333}, {3, 3, 166666}, {3, 4, 142857}, {5, 5, 100000}, {1, 100, 9900},
                {100, 99, 5025}};
            for (int[] one : due) {
                LevelNetwork x = line("0 0 " + one[0] + " " + one[1]);
                Check.due("of length " + (one[0] + one[1]), x.lineProperty(0, 6), one[2]);
            }
            Check.due("least", line(eight("0 0 100 100")).lineProperty(0, 6), 625);
            Check.due("of length 1599", line(eight("0 0 100 100").replaceAll("100$", "99")).lineProperty(0, 6), 625);
            Check.due("of length 1597", line(eight("0 0 100 100").replaceAll("100$", "97")).lineProperty(0, 6), 626);
        });
    }

    // ---- TESTS

    private static LevelNetwork test(String pairs) {
        return Check.network("level u 0;test u " + pairs + ";");
    }

    private static void tests() {
        Edge.under("TESTS");
        Edge.says("A test of a level has two pairs of readings a and b with their distances, first a1, b1 at the distances"
                + " p1, q1, then a2, b2 at p2, q2.", () -> {
            Check.due("a1", test("9 0 1 1 0 0 1 2").testNumber(0, 2), 9);
            Check.due("b1", test("0 9 1 1 0 0 1 2").testNumber(0, 2), -9);
            Check.due("a2", test("0 0 1 1 9 0 1 2").testNumber(0, 2), -9);
            Check.due("b2", test("0 0 1 1 0 9 1 2").testNumber(0, 2), 9);
            Check.due("p1", test("9 0 11 1 0 0 1 1").testNumber(0, 1), 90);
            Check.due("q1", test("9 0 1 11 0 0 1 1").testNumber(0, 1), -90);
            Check.due("p2", test("9 0 1 1 0 0 11 1").testNumber(0, 1), -90);
            Check.due("q2", test("9 0 1 1 0 0 1 11").testNumber(0, 1), 90);
        });
        Edge.says("If (p1 minus q1) equals (p2 minus q2), it has no result.", () -> {
            Check.due("0 and 0", test("0 0 1 1 0 0 100 100").testNumber(0, 1), Edge.NONE);
            Check.due("99 and 99", test("0 0 100 1 0 0 100 1").testNumber(0, 1), Edge.NONE);
            Check.due("-5 and -5", test("5 0 10 15 0 9 1 6").testNumber(0, 1), Edge.NONE);
            Check.due("1 and 0", test("0 0 2 1 0 0 1 1").testNumber(0, 1), 0);
            Check.due("0 and 1", test("0 0 1 1 0 0 2 1").testNumber(0, 1), 0);
            Check.due("5 and -5", test("0 0 6 1 0 0 1 6").testNumber(0, 1), 0);
        });
        Edge.says("Otherwise the result is 100 times ((a1 minus b1) minus (a2 minus b2)), divided by ((p1 minus q1) minus"
                + " (p2 minus q2)) and rounded towards 0", () -> {
            Check.due("100 / 1", test("1 0 2 1 0 0 1 1").testNumber(0, 1), 100);
            Check.due("200 / 3", test("2 0 4 1 0 0 1 1").testNumber(0, 1), 66);
            Check.due("-200 / 3", test("0 2 4 1 0 0 1 1").testNumber(0, 1), -66);
            Check.due("200 / -3", test("2 0 1 4 0 0 1 1").testNumber(0, 1), -66);
            Check.due("-200 / -3", test("0 2 1 4 0 0 1 1").testNumber(0, 1), 66);
            Check.due("100 / 101", test("1 0 100 1 0 0 1 3").testNumber(0, 1), 0);
            Check.due("-100 / 101", test("0 1 100 1 0 0 1 3").testNumber(0, 1), 0);
            Check.due("-100 / 198", test("0 1 100 1 0 0 1 100").testNumber(0, 1), 0);
            Check.due("1900 / 100, both pairs", test("40000 39990 51 1 5 14 1 51").testNumber(0, 1), 19);
        });
        Edge.says("but there is none if it is less than -200 or greater than 200.", () -> {
            Check.due("200", test("2 0 2 1 0 0 1 1").testNumber(0, 1), 200);
            Check.due("-200", test("0 2 2 1 0 0 1 1").testNumber(0, 1), -200);
            Check.due("201", test("201 0 51 1 0 0 1 51").testNumber(0, 1), Edge.NONE);
            Check.due("-201", test("0 201 51 1 0 0 1 51").testNumber(0, 1), Edge.NONE);
            Check.due("39700 / 198", test("397 0 100 1 0 0 1 100").testNumber(0, 1), 200);
            Check.due("-39700 / 198", test("0 397 100 1 0 0 1 100").testNumber(0, 1), -200);
            Check.due("39800 / 198", test("398 0 100 1 0 0 1 100").testNumber(0, 1), Edge.NONE);
            Check.due("-39800 / 198", test("0 398 100 1 0 0 1 100").testNumber(0, 1), Edge.NONE);
            Check.due("greatest", test("40000 0 2 1 0 40000 1 1").testNumber(0, 1), Edge.NONE);
            Check.due("least", test("0 40000 2 1 40000 0 1 1").testNumber(0, 1), Edge.NONE);
        });
    }

    // ---- promises 5 to 9

    private static void counts() {
        Edge.under("Promise 5: levelCount");
        Edge.says("Returns the number of levels.", () -> Check.due("two", Edge.sized(2, 3, 4, 5).levelCount(), 2));
        Edge.says("Returns 0 to 3.", () -> {
            Check.due("none", new LevelNetwork().levelCount(), 0);
            Check.due("none in a text", Check.network("point a;").levelCount(), 0);
            Check.due("three", Edge.sized(3, 0, 0, 0).levelCount(), 3);
        });
        Edge.under("Promise 6: pointCount");
        Edge.says("Returns the number of points.", () -> Check.due("three", Edge.sized(2, 3, 4, 5).pointCount(), 3));
        Edge.says("Returns 0 to 16.", () -> {
            Check.due("none", new LevelNetwork().pointCount(), 0);
            Check.due("none in a text", Check.network("level u 0;").pointCount(), 0);
            Check.due("sixteen", Edge.sized(0, 16, 0, 0).pointCount(), 16);
        });
        Edge.under("Promise 7: lineCount");
        Edge.says("Returns the number of lines.", () -> {
            LevelNetwork x = Edge.sized(2, 3, 4, 5);
            Check.due("four", x.lineCount(), 4);
            x.setActive(2, false);
            Check.due("four, active or not", x.lineCount(), 4);
        });
        Edge.says("Returns 0 to 20.", () -> {
            Check.due("none", new LevelNetwork().lineCount(), 0);
            Check.due("none in a text", Check.network(THREE).lineCount(), 0);
            Check.due("twenty", Edge.sized(1, 2, 20, 0).lineCount(), 20);
        });
        Edge.under("Promise 8: testCount");
        Edge.says("Returns the number of tests.", () -> Check.due("five", Edge.sized(2, 3, 4, 5).testCount(), 5));
        Edge.says("Returns 0 to 6.", () -> {
            Check.due("none", new LevelNetwork().testCount(), 0);
            Check.due("none in a text", Check.network(THREE).testCount(), 0);
            Check.due("six", Edge.sized(1, 0, 0, 6).testCount(), 6);
        });
        Edge.under("Promise 9: undoCount");
        Edge.says("Returns the number of changes that can be undone.", () -> {
            LevelNetwork x = Edge.sized(1, 2, 1, 0);
            for (int k = 1; k <= 3; k++) {
                x.hold(0, k);
                Check.due("changes", x.undoCount(), k);
            }
            x.undo();
            Check.due("one is undone", x.undoCount(), 2);
            x.hold(7, 7);
            Check.due("a refused call", x.undoCount(), 2);
        });
        Edge.says("Returns 0 to 8.", () -> {
            Check.due("none", new LevelNetwork().undoCount(), 0);
            LevelNetwork x = Edge.sized(1, 2, 1, 0);
            for (int k = 1; k <= 18; k++) {
                x.hold(0, k);
                Check.due("after " + k + " changes", x.undoCount(), Math.min(k, 8));
            }
            for (int k = 1; k <= 10; k++) {
                x.undo();
                Check.due("after " + k + " are undone", x.undoCount(), Math.max(8 - k, 0));
            }
        });
    }

    // ---- promises 10 to 12

    private static void names() {
        Edge.under("Promise 10: levelNamed");
        Edge.says("Returns the level with a name.", () -> {
            LevelNetwork x = Check.network("level abc 1;point abd;level ab 2;level abcdef 3;");
            Check.due("abc", x.levelNamed(Check.name("abc")), 0);
            Check.due("ab", x.levelNamed(Check.name("ab")), 1);
            Check.due("abcdef", x.levelNamed(Check.name("abcdef")), 2);
        });
        Edge.says("letters: the name as six groups of 5 bits, the first letter in the highest group", () -> {
            LevelNetwork x = Check.network("level abcdef 0;level a 0;level fedcba 0;");
            Check.due("abcdef", x.levelNamed(1 << 25 | 2 << 20 | 3 << 15 | 4 << 10 | 5 << 5 | 6), 0);
            Check.due("fedcba", x.levelNamed(6 << 25 | 5 << 20 | 4 << 15 | 3 << 10 | 2 << 5 | 1), 2);
            Check.due("a", x.levelNamed(1 << 25), 1);
            Check.due("a in the lowest group", x.levelNamed(1), Edge.NOT_FOUND);
            Check.due("a in the second group", x.levelNamed(1 << 20), Edge.NOT_FOUND);
        });
        Edge.says("a is 1, z is 26", () -> {
            for (char letter = 'a'; letter <= 'z'; letter++) {
                LevelNetwork x = Check.network("level " + letter + " 0;level bbbbb" + letter + " 0;");
                int number = letter - 'a' + 1;
                Check.due("" + letter, x.levelNamed(number << 25), 0);
                Check.due("bbbbb" + letter, x.levelNamed(Check.name("bbbbb") | number), 1);
                Check.due("one more than " + letter, x.levelNamed(number + 1 << 25), Edge.NOT_FOUND);
                Check.due("one less than " + letter, x.levelNamed(number - 1 << 25), Edge.NOT_FOUND);
            }
        });
        Edge.says("unused groups at the end are 0", () -> {
            LevelNetwork x = Check.network("level a 0;level ab 0;level abcde 0;");
            Check.due("a", x.levelNamed(1 << 25), 0);
            Check.due("abcde", x.levelNamed(Check.name("abcde")), 2);
            for (int bits = 1; bits < 32; bits++) {
                Check.due("a with a letter at the end", x.levelNamed(1 << 25 | bits), Edge.NOT_FOUND);
                Check.due("ab with a gap", x.levelNamed(1 << 25 | 2 << 20 | bits << 10), Edge.NOT_FOUND);
                Check.due("abcde with a letter at the end", x.levelNamed(Check.name("abcde") | bits), Edge.NOT_FOUND);
            }
        });
        Edge.says("Returns the index of the level", () -> {
            LevelNetwork x = Check.network("point a;level u 0;point b;level v 0;point c;level w 0;");
            Check.due("the first", x.levelNamed(Check.name("u")), 0);
            Check.due("the last", x.levelNamed(Check.name("w")), 2);
        });
        Edge.says("NOT_FOUND if there is none with that name.", () -> {
            notNamed("level v 0;point a;", LevelNetwork::levelNamed, "a");
            Check.due("in a new object", new LevelNetwork().levelNamed(0), Edge.NOT_FOUND);
            LevelNetwork x = Check.network(Edge.levels(3));
            Check.load(x, "level y 0;");
            Check.due("of the network before", x.levelNamed(Check.name("v")), Edge.NOT_FOUND);
            Check.due("where the first one was", x.levelNamed(Check.name("u")), Edge.NOT_FOUND);
        });

        Edge.under("Promise 11: pointNamed");
        Edge.says("Returns the point with a name.", () -> {
            LevelNetwork x = Check.network("point abc 1;level abd 1;point ab;point abcdef;");
            Check.due("abc", x.pointNamed(Check.name("abc")), 0);
            Check.due("ab", x.pointNamed(Check.name("ab")), 1);
            Check.due("abcdef", x.pointNamed(Check.name("abcdef")), 2);
        });
        Edge.says("letters: the name, given as for levelNamed", () -> {
            LevelNetwork x = Check.network("point abcdef;point z;point zzzzzz;");
            Check.due("abcdef", x.pointNamed(1 << 25 | 2 << 20 | 3 << 15 | 4 << 10 | 5 << 5 | 6), 0);
            Check.due("z", x.pointNamed(26 << 25), 1);
            Check.due("z in the lowest group", x.pointNamed(26), Edge.NOT_FOUND);
            Check.due("zzzzzz", x.pointNamed(0x35ad6b5a), 2);
        });
        Edge.says("Returns the index of the point", () -> {
            LevelNetwork x = Check.network(Edge.levels(3) + Edge.points(16));
            for (int point = 0; point < 16; point++) {
                Check.due("point " + point, x.pointNamed(point + 1 << 25), point);
            }
        });
        Edge.says("NOT_FOUND if there is none with that name.", () -> {
            notNamed("level a 0;point v;", LevelNetwork::pointNamed, "a");
            Check.due("in a new object", new LevelNetwork().pointNamed(0), Edge.NOT_FOUND);
            LevelNetwork x = Check.network(Edge.points(16));
            Check.load(x, "point y;");
            Check.due("of the network before", x.pointNamed(Check.name("b")), Edge.NOT_FOUND);
            Check.due("where the first one was", x.pointNamed(Check.name("a")), Edge.NOT_FOUND);
        });
    }

    /** Only v has this kind, and other has the other kind. */
    private static void notNamed(String text, Edge.Asked asked, String other) {
        LevelNetwork x = Check.network(text);
        int v = 22 << 25;
        Check.due("v", asked.of(x, v), 0);
        Check.due("of the other kind", asked.of(x, Check.name(other)), Edge.NOT_FOUND);
        for (int letters : new int[] {0, -1, 1, 22, 21 << 25, 23 << 25, v | 1, v | 1 << 20, v | 1 << 30, v | 1 << 31, v | 3 << 30,
            -v, Edge.MIN, Edge.MAX, ~v}) {
            Check.due("letters " + letters, asked.of(x, letters), Edge.NOT_FOUND);
        }
    }

    private static void settings() {
        Edge.under("Promise 12: getSetting");
        Edge.says("Returns the value of a setting.", () -> {
            LevelNetwork x = Check.network("set sight 7;set balance 8;set tolerance 9;");
            Check.due("sight", x.getSetting(LevelNetwork.SIGHT), 7);
            x.setSetting(LevelNetwork.SIGHT, 77);
            Check.due("sight, set", x.getSetting(LevelNetwork.SIGHT), 77);
        });
        Edge.says("setting: TOLERANCE, SIGHT or BALANCE", () -> {
            LevelNetwork x = Check.network("set sight 7;set balance 8;set tolerance 9;");
            Check.due("0", x.getSetting(0), 9);
            Check.due("1", x.getSetting(1), 7);
            Check.due("2", x.getSetting(2), 8);
        });
        Edge.says("Returns the value", () -> {
            LevelNetwork x = Check.network("set sight 1;set balance 0;set tolerance 0;");
            Check.due("least tolerance", x.getSetting(0), 0);
            Check.due("least sight", x.getSetting(1), 1);
            Check.due("least balance", x.getSetting(2), 0);
            Check.load(x, "set sight 100;set balance 800;set tolerance 500;");
            Check.due("greatest tolerance", x.getSetting(0), 500);
            Check.due("greatest sight", x.getSetting(1), 100);
            Check.due("greatest balance", x.getSetting(2), 800);
        });
        Edge.says("BAD_VALUE if setting is none of these.", () -> {
            for (int setting : Edge.outside(3)) {
                Check.due("setting " + setting, new LevelNetwork().getSetting(setting), Edge.BAD_VALUE);
            }
        });
    }

    // ---- promises 13 and 14

    private static void levelsAndTests() {
        Edge.under("Promise 13: collimation");
        Edge.says("Returns the collimation of a level.", () -> {
            LevelNetwork x = Check.network("level u 1;level v 2 down;level w 3;");
            Check.due("u", x.collimation(0), 1);
            Check.due("v", x.collimation(1), -2);
            Check.due("w", x.collimation(2), 3);
        });
        Edge.says("level: index of a level", () -> Edge.answersLevels(LevelNetwork::collimation));
        Edge.says("Returns -200 to 200.", () -> {
            LevelNetwork x = Check.network("level u 200 down;level v 200;");
            Check.due("least", x.collimation(0), -200);
            Check.due("greatest", x.collimation(1), 200);
        });
        Edge.says("Throws IndexOutOfBoundsException if level is not a valid index",
                () -> Edge.refusesLevels(LevelNetwork::collimation));

        Edge.under("Promise 14: testNumber");
        Edge.says("Returns a number of a test (see TESTS).", () -> {
            LevelNetwork x = Check.network("level u 0;level v 0;test u 0 0 1 1 0 0 1 1;test v 7 2 12 1 3 1 3 2;");
            Check.due("level", x.testNumber(1, 0), 1);
            Check.due("result", x.testNumber(1, 1), 30);
            Check.due("difference", x.testNumber(1, 2), 3);
        });
        Edge.says("test: index of a test", () -> Edge.answersTests((x, test) -> x.testNumber(test, 0)));
        Edge.says("what: 0: the level", () -> {
            LevelNetwork x = Check.network(Edge.levels(3) + "test w 0 0 1 1 0 0 1 1;test u 0 0 1 1 0 0 1 2;");
            Check.due("w", x.testNumber(0, 0), 2);
            Check.due("u", x.testNumber(1, 0), 0);
        });
        Edge.says("1: the result, NONE if there is none", () -> {
            Check.due("equal distances", test("9 0 1 1 0 0 1 1").testNumber(0, 1), Edge.NONE);
            Check.due("too great", test("9 0 2 1 0 0 1 1").testNumber(0, 1), Edge.NONE);
            Check.due("0 is a result", test("0 0 2 1 0 0 1 1").testNumber(0, 1), 0);
            Check.due("greatest", test("2 0 2 1 0 0 1 1").testNumber(0, 1), 200);
        });
        Edge.says("2: (a1 minus b1) minus (a2 minus b2)", () -> {
            Check.due("greatest", test("40000 0 1 1 0 40000 1 1").testNumber(0, 2), 80000);
            Check.due("least", test("0 40000 1 1 40000 0 1 2").testNumber(0, 2), -80000);
            Check.due("also if there is no result", test("9 5 1 1 3 1 1 1").testNumber(0, 2), 2);
        });
        Edge.says("Returns the number", () -> Check.due("50", test("2 0 5 1 0 0 1 1").testNumber(0, 1), 50));
        Edge.says("NONE for any other what.", () -> {
            LevelNetwork x = test("2 0 5 1 0 0 1 1");
            Check.due("3", x.testNumber(0, 3), Edge.NONE);
            for (int what : WRONG_WHATS) {
                Check.due("what " + what, x.testNumber(0, what), Edge.NONE);
            }
        });
        Edge.says("Throws IndexOutOfBoundsException if test is not a valid index",
                () -> Edge.refusesTests((x, test) -> x.testNumber(test, 0)));
        Edge.says("(checked first)", () -> Edge.refusesTests((x, test) -> x.testNumber(test, -1)));
    }

    // ---- promise 15

    private static void points() {
        Edge.under("Promise 15: heldAt");
        Edge.says("Returns the height at which a point is held.", () -> {
            LevelNetwork x = Check.network("point a 7;point b;");
            Check.due("held by the text", x.heldAt(0), 7);
            x.hold(1, 8);
            Check.due("held by a call", x.heldAt(1), 8);
        });
        Edge.says("point: index of a point", () -> Edge.answersPoints(LevelNetwork::heldAt));
        Edge.says("Returns the height in tenths of a millimetre", () -> {
            LevelNetwork x = Check.network("point a 0;point b 9999999;");
            Check.due("least", x.heldAt(0), 0);
            Check.due("greatest", x.heldAt(1), 9999999);
        });
        Edge.says("NOT_FOUND if it is not held.", () -> {
            LevelNetwork x = Check.network("level u 0;point a 0;point b;line a b u 0 0 1 1;");
            Check.due("with a provisional height alone", x.heldAt(1), Edge.NOT_FOUND);
            x.release(0);
            Check.due("released", x.heldAt(0), Edge.NOT_FOUND);
        });
        Edge.says("Throws IndexOutOfBoundsException if point is not a valid index",
                () -> Edge.refusesPoints(LevelNetwork::heldAt));
    }

    // ---- promise 16

    private static void properties() {
        LevelNetwork x = Check.network("level u 0;level v 0;" + Edge.points(16) + "line c p v 1 1 30 40 1 1 5 6;"
                + "line p a u 1 1 1 1;");
        Edge.under("Promise 16: lineProperty");
        Edge.says("Returns a property of a line.", () -> Check.due("of line 1", x.lineProperty(1, 0), 15));
        Edge.says("line: index of a line", () -> Edge.answersLines((y, line) -> y.lineProperty(line, 0)));
        Edge.says("what: 0: its first point", () -> Check.due("c", x.lineProperty(0, 0), 2));
        Edge.says("1: its second point", () -> {
            Check.due("p", x.lineProperty(0, 1), 15);
            Check.due("a", x.lineProperty(1, 1), 0);
        });
        Edge.says("2: its level", () -> {
            Check.due("v", x.lineProperty(0, 2), 1);
            Check.due("u", x.lineProperty(1, 2), 0);
        });
        Edge.says("3: the number of its setups", () -> {
            Check.due("two", x.lineProperty(0, 3), 2);
            Check.due("one", x.lineProperty(1, 3), 1);
            Check.due("eight", line(eight("0 0 1 1")).lineProperty(0, 3), 8);
        });
        Edge.says("4: 1 if it is active, otherwise 0", () -> {
            LevelNetwork y = Edge.sized(1, 2, 20, 0);
            y.setActive(19, false);
            y.setActive(0, false);
            for (int line = 0; line < 20; line++) {
                Check.due("line " + line, y.lineProperty(line, 4), line % 19 == 0 ? 0 : 1);
            }
        });
        Edge.says("5: its length", () -> {
            Check.due("81", x.lineProperty(0, 5), 81);
            Check.due("least", x.lineProperty(1, 5), 2);
            Check.due("greatest", line(eight("0 0 100 100")).lineProperty(0, 5), 1600);
        });
        Edge.says("6: its weight", () -> {
            Check.due("1000000 / 81", x.lineProperty(0, 6), 12345);
            Check.due("greatest", x.lineProperty(1, 6), 500000);
            Check.due("least", line(eight("0 0 100 100")).lineProperty(0, 6), 625);
        });
        Edge.says("Returns the property", () -> {
            LevelNetwork y = Edge.sized(1, 2, 1, 0);
            y.setActive(0, false);
            Check.due("of a line that is not active", y.lineProperty(0, 6), 500000);
        });
        Edge.says("BAD_VALUE for any other what.", () -> {
            Check.due("7", x.lineProperty(0, 7), Edge.BAD_VALUE);
            for (int what : WRONG_WHATS) {
                Check.due("what " + what, x.lineProperty(0, what), Edge.BAD_VALUE);
            }
        });
        Edge.says("Throws IndexOutOfBoundsException if line is not a valid index",
                () -> Edge.refusesLines((y, line) -> y.lineProperty(line, 0)));
        Edge.says("(checked first)", () -> Edge.refusesLines((y, line) -> y.lineProperty(line, 7)));
    }

    // ---- promises 17 to 22

    private static void readings() {
        LevelNetwork x = line("11 12 13 14 21 22 23 24");
        Edge.under("Promise 17: reading");
        Edge.says("Returns a number of a setup.", () -> Check.due("of setup 1", x.reading(0, 1, 1), 22));
        Edge.says("line: index of a line", () -> {
            Edge.answersLines((y, line) -> y.reading(line, 0, 0));
            LevelNetwork y = Check.network(THREE + LINE.repeat(19) + "line a b u 1 2 3 4;");
            Check.due("of line 19", y.reading(19, 0, 3), 4);
            Check.due("of line 18", y.reading(18, 0, 3), 1);
        });
        Edge.says("setup: 0 for the first setup of the line", () -> {
            LevelNetwork y = line("0 0 1 1 1 0 1 1 2 0 1 1 3 0 1 1 4 0 1 1 5 0 1 1 6 0 1 1 7 0 1 1");
            for (int setup = 0; setup < 8; setup++) {
                Check.due("setup " + setup, y.reading(0, setup, 0), setup);
            }
        });
        Edge.says("what: 0: back reading", () -> Check.due("11", x.reading(0, 0, 0), 11));
        Edge.says("1: fore reading", () -> Check.due("12", x.reading(0, 0, 1), 12));
        Edge.says("2: back distance", () -> Check.due("13", x.reading(0, 0, 2), 13));
        Edge.says("3: fore distance", () -> Check.due("14", x.reading(0, 0, 3), 14));
        Edge.says("Returns the number", () -> {
            LevelNetwork y = line("0 40000 1 100");
            Check.due("least reading", y.reading(0, 0, 0), 0);
            Check.due("greatest reading", y.reading(0, 0, 1), 40000);
            Check.due("least distance", y.reading(0, 0, 2), 1);
            Check.due("greatest distance", y.reading(0, 0, 3), 100);
        });
        Edge.says("NOT_FOUND if the line has no such setup", () -> {
            noSuchSetup((y, setup) -> y.reading(0, setup, 0), Edge.NOT_FOUND);
            LevelNetwork y = line("0 0 1 1");
            y.addSetup(0, 1, 1, 1, 1);
            y.undo();
            Check.due("undone", y.reading(0, 1, 0), Edge.NOT_FOUND);
        });
        Edge.says("BAD_VALUE for any other what", () -> {
            Check.due("4", x.reading(0, 0, 4), Edge.BAD_VALUE);
            for (int what : WRONG_WHATS) {
                Check.due("what " + what, x.reading(0, 1, what), Edge.BAD_VALUE);
            }
        });
        Edge.says("checked in this order.", () -> {
            for (int what : WRONG_WHATS) {
                Check.due("neither setup 2 nor what " + what, x.reading(0, 2, what), Edge.NOT_FOUND);
                Check.due("neither setup -1 nor what " + what, x.reading(0, -1, what), Edge.NOT_FOUND);
            }
        });
        Edge.says("Throws IndexOutOfBoundsException if line is not a valid index",
                () -> Edge.refusesLines((y, line) -> y.reading(line, 0, 0)));
        Edge.says("(checked first of all)", () -> {
            Edge.refusesLines((y, line) -> y.reading(line, 8, 0));
            Edge.refusesLines((y, line) -> y.reading(line, 0, 4));
            Edge.refusesLines((y, line) -> y.reading(line, -1, -1));
        });
    }

    /** Of lines with one setup, two and eight: only these setups are there. */
    private static void noSuchSetup(Edge.Asked asked, long due) {
        for (int setups : new int[] {1, 2, 8}) {
            // The line behind it has eight, so that none of its setups is taken for one of line 0.
            LevelNetwork x = Check.network("level u 0;point a 0;point b;line a b u" + " 5 0 1 1".repeat(setups) + ";line a b u "
                    + eight("6 0 1 1") + ";");
            for (int setup = 0; setup < setups; setup++) {
                Check.due("setup " + setup + " of " + setups, asked.of(x, setup) != due, true);
            }
            for (int setup : Edge.outside(setups)) {
                Check.due("setup " + setup + " of " + setups, asked.of(x, setup), due);
            }
        }
    }

    private static void steps() {
        Edge.under("Promise 18: stepOf");
        Edge.says("Returns the rise of a setup (see RISES).", () -> {
            LevelNetwork x = line(3, "5 0 7 1 0 9 1 8");
            Check.due("setup 0", x.stepOf(0, 0), 500 - 18);
            Check.due("setup 1", x.stepOf(0, 1), -900 + 21);
        });
        Edge.says("line: index of a line", () -> Edge.answersLines((x, line) -> x.stepOf(line, 0)));
        Edge.says("setup: 0 for the first setup of the line", () -> {
            LevelNetwork x = line("0 0 1 1 1 0 1 1 2 0 1 1 3 0 1 1 4 0 1 1 5 0 1 1 6 0 1 1 7 0 1 1");
            for (int setup = 0; setup < 8; setup++) {
                Check.due("setup " + setup, x.stepOf(0, setup), 100 * setup);
            }
        });
        Edge.says("Returns the rise", () -> {
            Check.due("greatest", line(-200, "40000 0 100 1").stepOf(0, 0), 4019800);
            Check.due("least", line(-200, "0 40000 1 100").stepOf(0, 0), -4019800);
            LevelNetwork x = line("5 0 1 1");
            x.setActive(0, false);
            Check.due("of a line that is not active", x.stepOf(0, 0), 500);
        });
        Edge.says("NONE if the line has no such setup.", () -> noSuchSetup((x, setup) -> x.stepOf(0, setup), Edge.NONE));
        Edge.says("Throws IndexOutOfBoundsException if line is not a valid index",
                () -> Edge.refusesLines((x, line) -> x.stepOf(line, 0)));
        Edge.says("(checked first)", () -> {
            Edge.refusesLines((x, line) -> x.stepOf(line, 8));
            Edge.refusesLines((x, line) -> x.stepOf(line, -1));
        });
    }

    private static void measures() {
        Edge.under("Promise 19: riseOf");
        Edge.says("Returns the rise of a line (see RISES).", () -> {
            LevelNetwork x = line("5 0 1 1 7 0 1 1");
            Check.due("of two setups", x.riseOf(0), 1200);
            x.setActive(0, false);
            Check.due("active or not", x.riseOf(0), 1200);
        });
        Edge.says("line: index of a line", () -> Edge.answersLines(LevelNetwork::riseOf));
        Edge.says("Returns the rise from its first to its second point.", () -> {
            LevelNetwork x = Check.network(THREE + "line b a u 9 0 1 1;");
            Check.due("from b to a", x.riseOf(0), 900);
            Check.due("greatest", line(-200, eight("40000 0 100 1")).riseOf(0), 32158400);
            Check.due("least", line(-200, eight("0 40000 1 100")).riseOf(0), -32158400);
        });
        Edge.says("Throws IndexOutOfBoundsException if line is not a valid index",
                () -> Edge.refusesLines(LevelNetwork::riseOf));

        Edge.under("Promise 20: collimationEffect");
        Edge.says("Returns by how much the rise of a line is changed by the collimation of its level: its rise minus what it"
                + " would be with the collimation 0.", () -> {
            LevelNetwork x = line(7, "1234 0 30 20 0 4321 5 1");
            int rise = x.riseOf(0);
            Check.due("the effect", x.collimationEffect(0), -7 * 14);
            x.setCollimation(0, 0);
            Check.due("the rise without it", rise - x.riseOf(0), -7 * 14);
            Check.due("the collimation 0", x.collimationEffect(0), 0);
        });
        Edge.says("line: index of a line", () -> Edge.answersLines(LevelNetwork::collimationEffect));
        Edge.says("Returns the difference.", () -> {
            Check.due("greatest", line(200, eight("0 0 1 100")).collimationEffect(0), 158400);
            Check.due("least", line(200, eight("0 0 100 1")).collimationEffect(0), -158400);
            Check.due("level down", line(-200, eight("0 0 100 1")).collimationEffect(0), 158400);
            Check.due("balanced", line(200, "9 0 50 60 9 0 60 50").collimationEffect(0), 0);
        });
        Edge.says("Throws IndexOutOfBoundsException if line is not a valid index",
                () -> Edge.refusesLines(LevelNetwork::collimationEffect));

        Edge.under("Promise 21: imbalance");
        Edge.says("Returns the imbalance of a line: the sum of the back distances minus the sum of the fore distances.", () -> {
            Check.due("of one setup", line("0 0 30 20").imbalance(0), 10);
            Check.due("of two setups", line("0 0 30 20 0 0 1 50").imbalance(0), -39);
            Check.due("balanced", line("0 0 30 20 0 0 20 30").imbalance(0), 0);
        });
        Edge.says("line: index of a line", () -> Edge.answersLines(LevelNetwork::imbalance));
        Edge.says("Returns the difference in metres.", () -> {
            Check.due("greatest", line(eight("0 0 100 1")).imbalance(0), 792);
            Check.due("least", line(eight("0 0 1 100")).imbalance(0), -792);
        });
        Edge.says("Throws IndexOutOfBoundsException if line is not a valid index",
                () -> Edge.refusesLines(LevelNetwork::imbalance));

        Edge.under("Promise 22: faultsOf");
        Edge.says("Returns the faults of a line.", () -> {
            Check.due("none", line("0 0 60 60").faultsOf(0), 0);
            Check.due("two", line("0 0 61 61").faultsOf(0), 2);
        });
        Edge.says("line: index of a line", () -> Edge.answersLines(LevelNetwork::faultsOf));
        Edge.says("Returns the number of distances of its setups that are greater than SIGHT", LineEdges::longSights);
        Edge.says("plus 1000 if its imbalance, without the sign, is greater than BALANCE.", LineEdges::imbalances);
        Edge.says("Throws IndexOutOfBoundsException if line is not a valid index",
                () -> Edge.refusesLines(LevelNetwork::faultsOf));
    }

    private static void longSights() {
        Check.due("just as great", line("0 0 60 60 0 0 60 60").faultsOf(0), 0);
        Check.due("a back distance", line("0 0 61 60").faultsOf(0), 1);
        Check.due("a fore distance", line("0 0 60 61").faultsOf(0), 1);
        Check.due("in the last setup", line("0 0 60 60 0 0 60 61").faultsOf(0), 1);
        Check.due("all sixteen", line(eight("0 0 61 61")).faultsOf(0), 16);
        // Neither the setup of the next line nor one that was undone is one of this line.
        Check.due("before another line", Check.network(THREE + "line a b u " + eight("0 0 1 1") + ";line a b u 0 0 61 61;").faultsOf(0), 0);
        Check.due("in the last line", Check.network(THREE + LINE.repeat(19) + "line a b u " + eight("0 0 61 60") + ";").faultsOf(19), 8);
        LevelNetwork y = line("0 0 1 1");
        y.addSetup(0, 0, 0, 61, 61);
        Check.due("added", y.faultsOf(0), 2);
        y.undo();
        Check.due("undone", y.faultsOf(0), 0);
        LevelNetwork x = line("0 0 100 100 0 0 1 1 0 0 2 2");
        x.setSetting(LevelNetwork.SIGHT, 100);
        Check.due("the greatest sight", x.faultsOf(0), 0);
        x.setSetting(LevelNetwork.SIGHT, 99);
        Check.due("one less", x.faultsOf(0), 2);
        x.setSetting(LevelNetwork.SIGHT, 1);
        Check.due("the least sight", x.faultsOf(0), 4);
    }

    private static void imbalances() {
        Check.due("20", line("0 0 60 40").faultsOf(0), 0);
        Check.due("21", line("0 0 60 39").faultsOf(0), 1000);
        Check.due("-20", line("0 0 40 60").faultsOf(0), 0);
        Check.due("-21", line("0 0 39 60").faultsOf(0), 1000);
        Check.due("the sum of all setups", line("0 0 60 49 0 0 60 50").faultsOf(0), 1000);
        Check.due("that is balanced", line("0 0 60 1 0 0 1 60").faultsOf(0), 0);
        LevelNetwork x = line(eight("0 0 100 1"));
        int[][] due = {{800, 8}, {792, 8}, {791, 1008}, {0, 1008}};
        for (int[] one : due) {
            x.setSetting(LevelNetwork.BALANCE, one[0]);
            Check.due("792 at " + one[0], x.faultsOf(0), one[1]);
        }
        x = line("0 0 7 7");
        x.setSetting(LevelNetwork.BALANCE, 0);
        Check.due("0 at 0", x.faultsOf(0), 0);
        x.setReading(0, 0, 3, 8);
        Check.due("-1 at 0", x.faultsOf(0), 1000);
        x.setSetting(LevelNetwork.SIGHT, 7);
        Check.due("both faults", x.faultsOf(0), 1001);
    }

    // ---- promise 23

    private static void turning() {
        Edge.under("Promise 23: turningHeight");
        Edge.says("Returns the height to which the setups of a line lead from the provisional height of its first point", () -> {
            LevelNetwork x = Check.network("level u 3;point a 10;point b;point c 50;line a b u 5 0 1 2 7 0 3 1;"
                    + "line c b u 0 9 1 1;");
            Check.due("setup 0", x.turningHeight(0, 0), 1000 + 503);
            Check.due("setup 1", x.turningHeight(0, 1), 1000 + 503 + 694);
            Check.due("from c", x.turningHeight(1, 0), 5000 - 900);
            x.adjust(200);
            Check.due("the provisional height, not the adjusted one", x.turningHeight(1, 0), 5000 - 900);
            x = Check.network("level u 0;point a 0;point b;point c;line a b u 1 0 1 1;line b c u 20 0 1 1;line c a u 0 0 1 1;");
            Check.due("the first point is not held", x.turningHeight(1, 0), 2100);
        });
        Edge.says("whether it is active or not.", () -> {
            LevelNetwork x = Check.network("level u 0;point a 10;point b;line a b u 5 0 1 1;");
            x.setActive(0, false);
            Check.due("not active", x.turningHeight(0, 0), 1500);
            x = Check.network("level u 0;point a 10;point b;line b a u 5 0 1 1;");
            x.setActive(0, false);
            Check.due("not active, and so its first point has no height", x.turningHeight(0, 0), Edge.NO_HEIGHT);
        });
        Edge.says("line: index of a line", () -> Edge.answersLines((x, line) -> x.turningHeight(line, 0)));
        Edge.says("setup: 0 for the first setup: how far the line is gone along", () -> {
            LevelNetwork x = Check.network("level u 0;point a 0;point b;line a b u " + eight("1 0 1 1") + ";");
            for (int setup = 0; setup < 8; setup++) {
                Check.due("setup " + setup, x.turningHeight(0, setup), 100 * (setup + 1));
            }
        });
        Edge.says("the last setup leads to its second point", () -> {
            LevelNetwork x = Check.network("level u 0;point a 0;point b;line a b u " + eight("1 0 1 1") + ";");
            Check.due("setup 7", x.turningHeight(0, 7), x.provisional(1));
        });
        Edge.says("Returns the height", () -> {
            LevelNetwork x = Check.network("level u 200;point a 9999999;point b 0;line a b u " + eight("40000 0 1 100")
                    + ";line b a u " + eight("0 40000 100 1") + ";");
            Check.due("greatest", x.turningHeight(0, 7), 999999900 + 32158400);
            Check.due("least", x.turningHeight(1, 7), -32158400);
        });
        Edge.says("Long.MIN_VALUE if the line has no such setup",
                () -> noSuchSetup((x, setup) -> x.turningHeight(0, setup), Edge.NO_HEIGHT));
        Edge.says("or its first point has no height.", () -> {
            LevelNetwork x = Check.network("level u 0;point a;point b;point c 0;line a b u 1 0 1 1;");
            Check.due("nothing leads to it", x.turningHeight(0, 0), Edge.NO_HEIGHT);
            x.hold(1, 0);
            Check.due("its second point leads to it", x.turningHeight(0, 0), 0);
            x.setActive(0, false);
            Check.due("but not when the line is not active", x.turningHeight(0, 0), Edge.NO_HEIGHT);
        });
        Edge.says("Throws IndexOutOfBoundsException if line is not a valid index",
                () -> Edge.refusesLines((x, line) -> x.turningHeight(line, 0)));
        Edge.says("(checked first)", () -> {
            Edge.refusesLines((x, line) -> x.turningHeight(line, 8));
            Edge.refusesLines((x, line) -> x.turningHeight(line, -1));
        });
    }

    // ---- promises 24 and 25

    private static void pairs() {
        String points = "level u 0;point a;point b;point c;";
        Edge.under("Promise 24: pairOf");
        Edge.says("Returns the line that is measured between the same two points as a line, in any direction", () -> {
            LevelNetwork x = Check.network(points + "line a b u 0 0 1 1;line c b u 0 0 1 1;line a b u 0 0 1 1;");
            Check.due("the same direction", x.pairOf(0), 2);
            Check.due("and back", x.pairOf(2), 0);
            x = Check.network(points + "line a b u 0 0 1 1;line a c u 0 0 1 1;line b a u 0 0 1 1;");
            Check.due("the other direction", x.pairOf(0), 2);
            Check.due("and back", x.pairOf(2), 0);
        });
        Edge.says("whether it is active or not.", () -> {
            LevelNetwork x = Check.network(points + "line a b u 0 0 1 1;line b a u 0 0 1 1;");
            x.setActive(1, false);
            Check.due("not active", x.pairOf(0), 1);
            Check.due("of one that is not active", x.pairOf(1), 0);
            x.setActive(0, false);
            Check.due("both are not active", x.pairOf(0), 1);
        });
        Edge.says("line: index of a line", () -> Edge.answersLines(LevelNetwork::pairOf));
        Edge.says("Returns the index of the other line, the lowest if there are several", () -> {
            LevelNetwork x = Edge.sized(1, 2, 20, 0);
            for (int line = 0; line < 20; line++) {
                Check.due("of line " + line, x.pairOf(line), line == 0 ? 1 : 0);
            }
        });
        Edge.says("NOT_FOUND if there is none.", () -> {
            Check.due("a line alone", Edge.sized(1, 2, 1, 0).pairOf(0), Edge.NOT_FOUND);
            LevelNetwork x = Check.network(points + "line a b u 0 0 1 1;line b c u 0 0 1 1;line c a u 0 0 1 1;");
            for (int line = 0; line < 3; line++) {
                Check.due("one point in common", x.pairOf(line), Edge.NOT_FOUND);
            }
            x = Check.network(points + "line c a u 0 0 1 1;" + LINE.repeat(19));
            Check.due("of twenty", x.pairOf(0), Edge.NOT_FOUND);
            Check.load(x, points);
            Check.load(x, points + LINE);
            Check.due("of a network before", x.pairOf(0), Edge.NOT_FOUND);
        });
        Edge.says("Throws IndexOutOfBoundsException if line is not a valid index",
                () -> Edge.refusesLines(LevelNetwork::pairOf));

        Edge.under("Promise 25: discrepancy");
        Edge.says("Returns the discrepancy of a line and its pair (see pairOf): the rise of the line minus the rise of the pair"
                + " between the same points in the same direction.", () -> {
            LevelNetwork x = Check.network(points + "line a b u 9 0 1 1;line a b u 2 0 1 1;line b a u 0 3 1 1;");
            Check.due("the same direction", x.discrepancy(0), 700);
            Check.due("and back", x.discrepancy(1), -700);
            Check.due("the other direction, from b to a", x.discrepancy(2), -300 + 900);
            x.setActive(0, false);
            Check.due("active or not", x.discrepancy(2), 600);
        });
        Edge.says("line: index of a line", () -> Edge.answersLines(LevelNetwork::discrepancy));
        Edge.says("Returns the difference", () -> {
            LevelNetwork x = Check.network("level u 200;point a;point b;line a b u " + eight("40000 0 1 100") + ";line a b u "
                    + eight("0 40000 100 1") + ";");
            Check.due("greatest", x.discrepancy(0), 64316800);
            Check.due("least", x.discrepancy(1), -64316800);
            Check.due("none", Edge.sized(1, 2, 2, 0).discrepancy(0), 0);
        });
        Edge.says("NONE if it has no pair.", () -> {
            Check.due("a line alone", line("9 0 1 1").discrepancy(0), Edge.NONE);
            LevelNetwork x = Check.network(points + "line a b u 9 0 1 1;line b c u 9 0 1 1;");
            Check.due("one point in common", x.discrepancy(1), Edge.NONE);
        });
        Edge.says("Throws IndexOutOfBoundsException if line is not a valid index",
                () -> Edge.refusesLines(LevelNetwork::discrepancy));
    }
}
