/** What the document is about, the constants, TEXT FORMAT, and promises 1 to 4, sentence by sentence. */
final class TextEdges {
    private static final int SYNTAX = LevelNetwork.SYNTAX_ERROR;
    private static final int RANGE = LevelNetwork.RANGE_ERROR;
    private static final int NAME = LevelNetwork.NAME_ERROR;
    private static final int DUPLICATE = LevelNetwork.DUPLICATE_ERROR;
    private static final int COUNT = LevelNetwork.COUNT_ERROR;

    private static final String THREE = "level u 0;point a;point b;";
    private static final String LINE = "line a b u 0 0 1 1;";
    private static final String TEST = "test u 0 0 1 1 0 0 1 1;";
    private static final int SPACES = 0x20202020;

    private TextEdges() {
    }

    static void all() {
        whatItIs();
        constants();
        tokens();
        grammar();
        meanings();
        errors();
        promise1();
        promise2();
        promise3();
        promise4();
    }

    private static void whatItIs() {
        Edge.under("What it is");
        Edge.plain("A network of level lines: heights carried from setup to setup over turning points, levels that are"
                + " not quite level and are tested for it, loops that must close, held benchmarks, and heights that"
                + " are adjusted by weights.");
        Edge.says("An object is used for at most 512 calls after it has been made", TextEdges::manyCalls);
        Edge.plain("what later calls answer is free.");
    }

    private static void constants() {
        Edge.under("The constants");
        Edge.says("TOLERANCE = 0, SIGHT = 1, BALANCE = 2: Settings.", () -> {
            Check.due("TOLERANCE", LevelNetwork.TOLERANCE, 0);
            Check.due("SIGHT", LevelNetwork.SIGHT, 1);
            Check.due("BALANCE", LevelNetwork.BALANCE, 2);
        });
        Edge.says("NONE = Integer.MIN_VALUE: Result: there is no such number.",
                () -> Check.due("NONE", LevelNetwork.NONE, -2147483648L));
        Edge.says("NOT_FOUND = -1: Error code: there is no such thing.",
                () -> Check.due("NOT_FOUND", LevelNetwork.NOT_FOUND, -1));
        Edge.says("BAD_VALUE = -2: Error code: a parameter is out of range.",
                () -> Check.due("BAD_VALUE", LevelNetwork.BAD_VALUE, -2));
        Edge.says("FULL = -3: Error code: a limit is reached.", () -> Check.due("FULL", LevelNetwork.FULL, -3));
        Edge.says("SYNTAX_ERROR = -11, RANGE_ERROR = -12, NAME_ERROR = -13, DUPLICATE_ERROR = -14, COUNT_ERROR = -15:"
                + " Error codes of load.", () -> {
            Check.due("SYNTAX_ERROR", SYNTAX, -11);
            Check.due("RANGE_ERROR", RANGE, -12);
            Check.due("NAME_ERROR", NAME, -13);
            Check.due("DUPLICATE_ERROR", DUPLICATE, -14);
            Check.due("COUNT_ERROR", COUNT, -15);
        });
        Edge.plain("The constructor and the methods follow, a promise each: the signature, then what it does.");
    }

    private static void tokens() {
        Edge.under("TEXT FORMAT for load");
        Edge.says("Tokens are words (maximal runs of the letters a to z)", TextEdges::words);
        Edge.says("integers (maximal runs of decimal digits", TextEdges::integers);
        Edge.says("read as unsigned numbers of any length)", TextEdges::longIntegers);
        Edge.says("and the character ';'.", TextEdges::semicolons);
        Edge.says("Spaces (32) and newlines (10) may stand between tokens.", TextEdges::spaces);
        Edge.says("Any other character is a token that is never allowed.", TextEdges::otherCharacters);
    }

    private static void grammar() {
        Edge.says("text = { statement \";\" }", TextEdges::statements);
        Edge.says("statement = \"level\" name collimation [ \"down\" ]", TextEdges::levelStatement);
        Edge.says("| \"point\" name [ height ]", TextEdges::pointStatement);
        Edge.says("| \"line\" name name name setup { setup }", TextEdges::lineStatement);
        Edge.says("| \"test\" name pair pair", TextEdges::testStatement);
        Edge.says("| \"set\" setting integer", TextEdges::setStatement);
        Edge.says("setup = back fore distance distance", TextEdges::setup);
        Edge.says("pair = a b p q", TextEdges::pair);
        Edge.says("setting = \"tolerance\" | \"sight\" | \"balance\"", TextEdges::setting);
    }

    private static void meanings() {
        Edge.says("A name is a word of 1 to 6 letters", TextEdges::lengthsOfNames);
        Edge.says("other than level, down, point, line, test, set and sight.", TextEdges::wordsThatAreNoNames);
        Edge.says("Levels and points have one name space in common", TextEdges::oneNameSpace);
        Edge.says("behind their declarations they are given by their names.", TextEdges::behindDeclarations);
        Edge.says("The collimation is 0 to 200, and negative with the word down.", TextEdges::collimations);
        Edge.says("A point with a height is held at it.", TextEdges::heldPoints);
        Edge.says("A line gives its first point, its second point and its level, a test its level", TextEdges::given);
        Edge.says("pair gives two readings and their distances, in the ranges of those of setups.", TextEdges::ranges);
    }

    private static void errors() {
        Edge.says("The first error in the order of the text is reported, at the position of the first character of its"
                + " token.", TextEdges::firstError);
        Edge.says("If several errors apply to one token, the one listed first is reported.", TextEdges::severalErrors);
        Edge.says("SYNTAX_ERROR: the token is not allowed here", TextEdges::notAllowed);
        Edge.says("if the text ends too early, the position is its length.", TextEdges::endsTooEarly);
        Edge.says("RANGE_ERROR: an integer is outside its range.", TextEdges::outsideRange);
        Edge.says("NAME_ERROR: a name that is not that of a point or a level, respectively.", TextEdges::wrongNames);
        Edge.says("DUPLICATE_ERROR: a name that is already declared, in a level or point statement",
                TextEdges::declaredTwice);
        Edge.says("the second point of a line that is the same as the first", TextEdges::samePoint);
        Edge.says("the name of a setting that was already given.", TextEdges::settingTwice);
        Edge.says("COUNT_ERROR: the word level of a fourth level", TextEdges::fourthLevel);
        Edge.says("point of a 17th point", TextEdges::point17);
        Edge.says("line of a 21st line", TextEdges::line21);
        Edge.says("or test of a seventh test", TextEdges::seventhTest);
        Edge.says("the first integer of a ninth setup.", TextEdges::ninthSetup);
    }

    private static void promise1() {
        Edge.under("Promise 1: A new object");
        Edge.says("Creates a network without levels, points, lines and tests", () -> {
            LevelNetwork x = new LevelNetwork();
            Check.due("levels", x.levelCount(), 0);
            Check.due("points", x.pointCount(), 0);
            Check.due("lines", x.lineCount(), 0);
            Check.due("tests", x.testCount(), 0);
        });
        Edge.says("with initial settings", () -> {
            LevelNetwork x = new LevelNetwork();
            Check.due("tolerance", x.getSetting(0), 40);
            Check.due("sight", x.getSetting(1), 60);
            Check.due("balance", x.getSetting(2), 20);
        });
        Edge.says("an empty input buffer", () -> {
            Check.due("nothing to read", new LevelNetwork().load(1), LevelNetwork.BAD_VALUE);
            Check.due("an empty text", new LevelNetwork().load(0), 0);
            Check.due("the first bytes", feedSpaces(new LevelNetwork()), 20);
        });
        Edge.says("and no changes to undo.", () -> {
            Check.due("changes", new LevelNetwork().undoCount(), 0);
            Check.due("undo", new LevelNetwork().undo(), LevelNetwork.NOT_FOUND);
        });
    }

    private static void promise2() {
        Edge.under("Promise 2: feed");
        Edge.says("Appends 20 bytes to the input buffer", () -> {
            LevelNetwork x = new LevelNetwork();
            feedSpaces(x);
            Check.due("not 21", x.load(21), LevelNetwork.BAD_VALUE);
            Check.due("not fewer than 20", x.load(20), 0);
            Check.feed(x, "point abc 12345;    ");
            Check.feed(x, "point abd 23456;    ");
            Check.due("behind what is there", x.load(40), 2);
            Check.due("the first name", x.pointNamed(Check.name("abc")), 0);
            Check.due("the second name", x.pointNamed(Check.name("abd")), 1);
        });
        Edge.says("the four bytes of each parameter, most significant byte first.", () -> {
            LevelNetwork x = new LevelNetwork();
            x.feed(0x706f696e, 0x74207a20, 0x39383736, 0x3534333b, 0x20202020);
            Check.due("point z 9876543;", x.load(20), 1);
            Check.due("the name", x.pointNamed(Check.name("z")), 0);
            Check.due("the digits", x.heldAt(0), 9876543);
            // The sign bit of a parameter is the highest bit of a byte like any other.
            x.feed(0x70ef696e, SPACES, SPACES, SPACES, SPACES);
            Check.due("239 is no o", x.load(20), SYNTAX);
            Check.due("where the word ends", x.errorPosition(), 0);
            x.feed(0xa0202020, SPACES, SPACES, SPACES, SPACES);
            Check.due("160 is no space", x.load(20), SYNTAX);
            Check.due("at the start", x.errorPosition(), 0);
            x.feed(0x202020a0, SPACES, SPACES, SPACES, SPACES);
            Check.due("160 at the end", x.load(20), SYNTAX);
            Check.due("at the fourth byte", x.errorPosition(), 3);
        });
        Edge.says("a: first four bytes", () -> wrongByte(0));
        Edge.says("b: next four bytes", () -> wrongByte(1));
        Edge.says("c: next four bytes", () -> wrongByte(2));
        Edge.says("d: next four bytes", () -> wrongByte(3));
        Edge.says("e: last four bytes", () -> wrongByte(4));
        Edge.says("Returns the new number of bytes in the buffer", () -> {
            LevelNetwork x = new LevelNetwork();
            for (int k = 1; k <= 60; k++) {
                Check.due("feed " + k, feedSpaces(x), 20 * k);
            }
            x.load(0);
            Check.due("anew after load", feedSpaces(x), 20);
        });
        Edge.says("FULL if the buffer would hold more than 1200 bytes", () -> {
            LevelNetwork x = filled();
            Check.due("the 61st feed", feedSpaces(x), LevelNetwork.FULL);
            Check.due("the 62nd feed", feedSpaces(x), LevelNetwork.FULL);
            x.load(5);
            Check.due("not full after load", feedSpaces(x), 20);
        });
        Edge.says("(nothing is appended then).", () -> {
            LevelNetwork x = filled();
            x.feed(-1, -1, -1, -1, -1);
            Check.due("no byte more", x.load(1201), LevelNetwork.BAD_VALUE);
            Check.due("no 20 bytes more", x.load(1220), LevelNetwork.BAD_VALUE);
            Check.due("none of the bytes is another one", x.load(1200), 0);
        });
    }

    private static void promise3() {
        Edge.under("Promise 3: load");
        Edge.says("Replaces the network by the one described by the first length bytes of the input buffer"
                + " (see TEXT FORMAT)", TextEdges::replaced);
        Edge.says("and empties the buffer.", () -> {
            LevelNetwork x = new LevelNetwork();
            Check.feed(x, "point a;point b;point c;");
            Check.due("one point", x.load(8), 1);
            Check.due("nothing is left", x.load(1), LevelNetwork.BAD_VALUE);
            Check.due("the next feed is the first", feedSpaces(x), 20);
            Check.due("length 0 empties it too", x.load(0), 0);
            Check.due("nothing is left", x.load(1), LevelNetwork.BAD_VALUE);
        });
        Edge.says("After a successful load nothing can be undone.", () -> {
            LevelNetwork x = Check.network(THREE + LINE);
            for (int k = 0; k < 9; k++) {
                x.hold(0, k);
            }
            x.adjust(1);
            Check.due("eight changes", x.undoCount(), 8);
            Check.due("the empty text", x.load(0), 0);
            Check.due("no change", x.undoCount(), 0);
            Check.due("undo", x.undo(), LevelNetwork.NOT_FOUND);
            Check.due("not adjusted", x.isAdjusted(), false);
        });
        Edge.says("If the text has an error, nothing but the buffer changes: it is emptied all the same.",
                TextEdges::failedLoads);
        Edge.says("length: number of bytes to read, from 0 to the number of bytes in the buffer", () -> {
            String text = "point a; point b;   ";
            for (int length = 0; length <= 20; length++) {
                LevelNetwork x = new LevelNetwork();
                Check.feed(x, text);
                int due = length == 0 ? 0 : length == 8 || length == 9 ? 1 : length >= 17 ? 2 : SYNTAX;
                Check.due("length " + length, x.load(length), due);
            }
            Check.due("length 0 of none", new LevelNetwork().load(0), 0);
            Check.due("length 1200 of 1200", filled().load(1200), 0);
        });
        Edge.says("Returns the number of statements", () -> {
            Check.good("", 0);
            Check.good("  \n ", 0);
            Check.good("point a;", 1);
            Check.good("set sight 5;set balance 5;level u 0;point a;point b;" + LINE + TEST, 7);
            // As many as may be: 3 levels, 16 points, 20 lines, 6 tests and 3 settings.
            Check.good("set sight 1;set balance 1;set tolerance 1;" + Edge.levels(3) + Edge.points(16)
                    + LINE.repeat(20) + TEST.repeat(6), 48);
        });
        Edge.says("BAD_VALUE if length is out of range", () -> {
            LevelNetwork x = new LevelNetwork();
            for (int bytes = 0; bytes <= 1200; bytes = bytes == 20 ? 1200 : bytes + 20) {
                for (int bad : new int[] {-1, -2, -20, Edge.MIN, Edge.MIN + 1, bytes + 1, bytes + 20, 1201, 65536, Edge.MAX}) {
                    Check.due("length " + bad + " of " + bytes, x.load(bad), LevelNetwork.BAD_VALUE);
                }
                for (int k = feedSpaces(x); bytes == 20 && k < 1200; k = feedSpaces(x)) {
                    Check.due("the buffer grows", k % 20, 0);
                }
            }
        });
        Edge.says("(the buffer is unchanged then)", () -> {
            LevelNetwork x = new LevelNetwork();
            Check.feed(x, "point ab;");
            x.load(21);
            x.load(-1);
            Check.due("behind what is there", feedSpaces(x), 40);
            Check.due("what was fed", x.load(9), 1);
            Check.due("its name", x.pointNamed(Check.name("ab")), 0);
        });
        Edge.says("SYNTAX_ERROR, RANGE_ERROR, NAME_ERROR, DUPLICATE_ERROR or COUNT_ERROR.", () -> {
            Check.bad("points;", SYNTAX, 0);
            Check.bad("level u 201;", RANGE, 8);
            Check.bad("point a;line b", NAME, 13);
            Check.bad("point a;point a;", DUPLICATE, 14);
            Check.bad(Edge.levels(3) + "level", COUNT, 30);
        });
    }

    private static void promise4() {
        Edge.under("Promise 4: errorPosition");
        Edge.says("Returns the position of the error of the latest load that did not return BAD_VALUE.", () -> {
            LevelNetwork x = new LevelNetwork();
            Check.load(x, "point a;point 5;");
            Check.due("the error", x.errorPosition(), 14);
            x.load(1);
            x.load(-1);
            Check.due("BAD_VALUE tells none", x.errorPosition(), 14);
            feedSpaces(x);
            x.hold(0, 1);
            x.undo();
            Check.due("other calls leave it alone", x.errorPosition(), 14);
            x.load(20);
            Check.due("no error", x.errorPosition(), LevelNetwork.NOT_FOUND);
            Check.load(x, ";");
            x.load(1);
            Check.due("the next error", x.errorPosition(), 0);
        });
        Edge.says("Returns the position in bytes from the start of the text", () -> {
            Check.bad("?", SYNTAX, 0);
            Check.bad(" ?", SYNTAX, 1);
            Check.bad("\n\n\n?", SYNTAX, 3);
            Check.bad("point a;\n" + " ".repeat(1190) + "?", SYNTAX, 1199);
            Check.bad("point a" + " ".repeat(1193), SYNTAX, 1200);
        });
        Edge.says("NOT_FOUND if that load had no error or there was none.", () -> {
            LevelNetwork x = new LevelNetwork();
            Check.due("no load", x.errorPosition(), LevelNetwork.NOT_FOUND);
            x.load(1);
            Check.due("only a load with BAD_VALUE", x.errorPosition(), LevelNetwork.NOT_FOUND);
            Check.load(x, "point a;");
            Check.due("a load without an error", x.errorPosition(), LevelNetwork.NOT_FOUND);
            Check.load(x, "point a");
            x.load(0);
            Check.due("the empty text has no error", x.errorPosition(), LevelNetwork.NOT_FOUND);
        });
    }

    // ---- what it is

    private static void manyCalls() {
        LevelNetwork x = new LevelNetwork();
        Check.feed(x, "level u 0;point a 0;point b;line a b u 2 1 1 1;     ");
        int calls = 3;
        x.load(60);
        calls++;
        while (calls < 508) {
            x.adjust(200);
            x.hold(0, calls);
            x.addSetup(0, 1, 1, 1, 1);
            x.undo();
            calls += 4;
        }
        Check.due("call 509", x.setReading(0, 0, 0, 9), 2);
        Check.due("call 510", x.adjust(200), 1);
        Check.due("call 511", x.undoCount(), 8);
        Check.due("call 512", x.heightOf(1), 100 * 504 + 800);
    }

    // ---- tokens

    private static void words() {
        Check.good("point az;", 1);
        Check.due("one word", Check.good("point ab;", 1).pointNamed(Check.name("ab")), 0);
        Check.bad("pointa;", SYNTAX, 0);
        Check.bad("point a b;", SYNTAX, 8);
        Check.bad("po int a;", SYNTAX, 0);
        Check.bad("point `;", SYNTAX, 6);
        Check.bad("point {;", SYNTAX, 6);
        Check.bad("point a`;", SYNTAX, 7);
        Check.bad("point a{;", SYNTAX, 7);
        Check.bad("point A;", SYNTAX, 6);
        Check.bad("point aZ;", SYNTAX, 7);
        Check.bad("point " + "a".repeat(1190) + ";", SYNTAX, 6);
        Check.due("a word ends at a digit", Check.good("point a5;", 1).heldAt(0), 5);
    }

    private static void integers() {
        Check.due("the digits 0 to 9", Check.good("point a 9012345;", 1).heldAt(0), 9012345);
        Check.due("the other digits", Check.good("point a 1678;", 1).heldAt(0), 1678);
        Check.bad("point a 12 3;", SYNTAX, 11);
        Check.bad("point a 1/;", SYNTAX, 9);
        Check.bad("point a 1:;", SYNTAX, 9);
        Check.bad("point a 1.0;", SYNTAX, 9);
        Check.bad("point a 1_0;", SYNTAX, 9);
        Check.bad("point a 1,0;", SYNTAX, 9);
        Check.bad("point a 0x1;", SYNTAX, 9);
        Check.due("an integer ends at a letter", Check.good("level u5down;", 1).collimation(0), -5);
    }

    private static void longIntegers() {
        Check.bad("point a -1;", SYNTAX, 8);
        Check.bad("point a +1;", SYNTAX, 8);
        String zeros = "0".repeat(1180);
        Check.due("zeros before", Check.good("point a " + zeros + "7;", 1).heldAt(0), 7);
        Check.due("zeros alone", Check.good("point a " + zeros + ";", 1).heldAt(0), 0);
        Check.bad("point a 9" + zeros + ";", RANGE, 8);
        Check.bad("point a " + "9".repeat(1180) + ";", RANGE, 8);
        // These are small numbers if counted in 32 or 64 bits.
        for (String wrapped : new String[] {"4294967296", "4294967297", "4294967301", "2147483648", "18446744073709551616",
            "18446744073709551621", "9223372036854775808", "340282366920938463463374607431768211461", "42949672960",
            "10000000000000000000000000000005", "10737418240", "6442450944"}) {
            Check.bad("point a " + wrapped + ";", RANGE, 8);
            Check.bad("level u " + wrapped + ";", RANGE, 8);
            Check.bad("set sight 000" + wrapped + ";", RANGE, 10);
            Check.bad(THREE + "line a b u 0 0 1 " + wrapped, RANGE, THREE.length() + 17);
        }
    }

    private static void semicolons() {
        Check.good("point a;point b;", 2);
        Check.good("point a ; point b ;", 2);
        Check.bad("point a:", SYNTAX, 7);
        Check.bad("point a,", SYNTAX, 7);
        Check.bad("point;a;", SYNTAX, 5);
        Check.bad(";;", SYNTAX, 0);
    }

    private static void spaces() {
        LevelNetwork x = Check.good("\n \nlevel \n\n u\n0 \n; point  a\n7;point\nb ;  line\na  b \nu 1 \n 0\n1   1;\n ", 4);
        Check.due("held", x.heldAt(0), 7);
        Check.due("the rise", x.riseOf(0), 100);
        Check.good("level u0down;point a0;point b;line a b u 0 0 1 1;", 4);
        Check.good(" ".repeat(1200), 0);
        Check.good("\n".repeat(1200), 0);
        Check.bad("lev el u 0;", SYNTAX, 0);
        Check.bad("set sight 1 0;", SYNTAX, 12);
    }

    private static void otherCharacters() {
        for (char sign = 0; sign < 256; sign++) {
            boolean allowed = sign >= 'a' && sign <= 'z' || sign >= '0' && sign <= '9' || sign == ';' || sign == ' '
                    || sign == '\n';
            if (!allowed) {
                Check.bad(sign + "point a;", SYNTAX, 0);
                Check.bad("point" + sign + "a;", SYNTAX, 5);
                Check.bad("point a" + sign + ";", SYNTAX, 7);
                Check.bad("point a 5" + sign + "5;", SYNTAX, 9);
                Check.bad("point a;" + sign, SYNTAX, 8);
                Check.bad("point a; " + sign + sign, SYNTAX, 9);
            }
        }
    }

    // ---- the grammar

    private static void statements() {
        Check.good("", 0);
        Check.good("point a;", 1);
        Check.good("point a;point b;", 2);
        Check.bad("point a", SYNTAX, 7);
        Check.bad("point a;point b", SYNTAX, 15);
        Check.bad("point a point b;", SYNTAX, 8);
        Check.bad("point a;;", SYNTAX, 8);
        Check.bad(";point a;", SYNTAX, 0);
        Check.bad("a;", SYNTAX, 0);
        Check.bad("7;", SYNTAX, 0);
        Check.bad("down;", SYNTAX, 0);
        Check.bad("sight 7;", SYNTAX, 0);
        String[] nearly = {"zevel u 0;", "levez u 0;", "zoint a;", "poinz a;", "zine a b u 0 0 1 1;", "linz a b u 0 0 1 1;",
            "zest u 0 0 1 1 0 0 1 1;", "tesz u 0 0 1 1 0 0 1 1;", "zet sight 7;", "sez sight 7;", "Level u 0;"};
        for (String wrong : nearly) {
            Check.bad(THREE + wrong, SYNTAX, THREE.length());
        }
    }

    private static void levelStatement() {
        Check.due("without down", Check.good("level u 7;", 1).collimation(0), 7);
        Check.due("with down", Check.good("level u 7 down;", 1).collimation(0), -7);
        Check.bad("level;", SYNTAX, 5);
        Check.bad("level u;", SYNTAX, 7);
        Check.bad("level 7 u;", SYNTAX, 6);
        Check.bad("level u down;", SYNTAX, 8);
        Check.bad("level u down 7;", SYNTAX, 8);
        Check.bad("level u 7 up;", SYNTAX, 10);
        Check.bad("level u 7 8;", SYNTAX, 10);
        Check.bad("level u 7 down down;", SYNTAX, 15);
        Check.bad("level u 7 zown;", SYNTAX, 10);
        Check.bad("level u 7 downs;", SYNTAX, 10);
    }

    private static void pointStatement() {
        Check.due("without a height", Check.good("point a;", 1).heldAt(0), LevelNetwork.NOT_FOUND);
        Check.due("with a height", Check.good("point a 7;", 1).heldAt(0), 7);
        Check.bad("point;", SYNTAX, 5);
        Check.bad("point 7;", SYNTAX, 6);
        Check.bad("point a 7 8;", SYNTAX, 10);
        Check.bad("point a 7 down;", SYNTAX, 10);
        Check.bad("point a b;", SYNTAX, 8);
    }

    private static void lineStatement() {
        Check.due("one setup", Check.good(THREE + LINE, 4).lineProperty(0, 3), 1);
        Check.due("two setups", Check.good(THREE + "line a b u 0 0 1 1 0 0 1 1;", 4).lineProperty(0, 3), 2);
        int at = THREE.length();
        Check.bad(THREE + "line;", SYNTAX, at + 4);
        Check.bad(THREE + "line 7 b u 0 0 1 1;", SYNTAX, at + 5);
        Check.bad(THREE + "line a;", SYNTAX, at + 6);
        Check.bad(THREE + "line a b;", SYNTAX, at + 8);
        Check.bad(THREE + "line a b 0 0 1 1;", SYNTAX, at + 9);
        Check.bad(THREE + "line a b u;", SYNTAX, at + 10);
        Check.bad(THREE + "line a b u u 0 0 1 1;", SYNTAX, at + 11);
        Check.bad(THREE + "line a b u 0 0 1 1 a;", SYNTAX, at + 19);
        Check.bad(THREE + "line a b u 0 0 1 1 down;", SYNTAX, at + 19);
    }

    private static void testStatement() {
        Check.due("a test", Check.good("level u 0;" + TEST, 2).testCount(), 1);
        Check.bad("level u 0;test;", SYNTAX, 14);
        Check.bad("level u 0;test 0 0 1 1 0 0 1 1;", SYNTAX, 15);
        Check.bad("level u 0;test u;", SYNTAX, 16);
        Check.bad("level u 0;test u 0 0 1 1;", SYNTAX, 24);
        Check.bad("level u 0;test u 0 0 1 1 0 0 1 1 0 0 1 1;", SYNTAX, 33);
        Check.bad("level u 0;test u u 0 0 1 1 0 0 1 1;", SYNTAX, 17);
    }

    private static void setStatement() {
        Check.due("a setting", Check.good("set sight 7;", 1).getSetting(1), 7);
        Check.bad("set;", SYNTAX, 3);
        Check.bad("set 7;", SYNTAX, 4);
        Check.bad("set sight;", SYNTAX, 9);
        Check.bad("set sight a;", SYNTAX, 10);
        Check.bad("set sight 7 8;", SYNTAX, 12);
        Check.bad("set sight 7 down;", SYNTAX, 12);
    }

    private static void setup() {
        LevelNetwork x = Check.good(THREE + "line a b u 11 12 13 14 21 22 23 24;", 4);
        for (int setup = 0; setup < 2; setup++) {
            for (int what = 0; what < 4; what++) {
                Check.due("number " + what + " of setup " + setup, x.reading(0, setup, what), 10 * setup + 11 + what);
            }
        }
        int at = THREE.length() + 10;
        Check.bad(THREE + "line a b u 0;", SYNTAX, at + 2);
        Check.bad(THREE + "line a b u 0 0;", SYNTAX, at + 4);
        Check.bad(THREE + "line a b u 0 0 1;", SYNTAX, at + 6);
        Check.bad(THREE + "line a b u 0 0 1 1 0;", SYNTAX, at + 10);
        Check.bad(THREE + "line a b u 0 0 1 1 0 0;", SYNTAX, at + 12);
        Check.bad(THREE + "line a b u 0 0 1 1 0 0 1;", SYNTAX, at + 14);
    }

    private static void pair() {
        // ((1500 - 1100) - (1300 - 1000)) = 100; (20 - 3) - (10 - 13) = 20
        LevelNetwork x = Check.good("level u 0;test u 1500 1100 20 3 1300 1210 10 13;", 2);
        Check.due("a and b", x.testNumber(0, 2), 310);
        x = Check.good("level u 0;test u 1500 1490 20 3 1300 1300 10 13;", 2);
        Check.due("p and q", x.testNumber(0, 1), 50);
        String[] given = {"0", "0", "1", "1", "0", "0", "1", "1"};
        StringBuilder text = new StringBuilder("level u 0;test u");
        for (String one : given) {
            Check.bad(text + ";", SYNTAX, text.length());
            Check.bad(text + " down;", SYNTAX, text.length() + 1);
            text.append(' ').append(one);
        }
        Check.good(text + ";", 2);
    }

    private static void setting() {
        LevelNetwork x = Check.good("set tolerance 7;set sight 8;set balance 9;", 3);
        Check.due("tolerance", x.getSetting(0), 7);
        Check.due("sight", x.getSetting(1), 8);
        Check.due("balance", x.getSetting(2), 9);
        for (String word : new String[] {"a", "level", "down", "set", "tolerances", "toleranc", "zolerance", "tolerancz", "sights",
            "sigh", "zight", "sighz", "balances", "balanc", "zalance", "balancz", "collim"}) {
            Check.bad("set " + word + " 7;", SYNTAX, 4);
        }
    }

    // ---- what is meant

    private static void lengthsOfNames() {
        String letters = "abcdefghijklmnopqrstuvwxyz";
        for (int length = 1; length <= 6; length++) {
            String name = letters.substring(0, length);
            Check.due("the point " + name, Check.good("point " + name + ";", 1).pointNamed(Check.name(name)), 0);
            Check.due("the level " + name, Check.good("level " + name + " 0;", 1).levelNamed(Check.name(name)), 0);
        }
        for (int length : new int[] {7, 8, 12, 26}) {
            Check.bad("point " + letters.substring(0, length) + ";", SYNTAX, 6);
            Check.bad("level " + letters.substring(0, length) + " 0;", SYNTAX, 6);
            Check.bad(THREE + "line " + letters.substring(0, length), SYNTAX, THREE.length() + 5);
        }
        // Their first six letters are a name, and one that is declared.
        Check.bad("point abcdef;point abcdefg;", SYNTAX, 19);
        Check.bad("level abcdef 0;test abcdefg", SYNTAX, 20);
        Check.bad("point;", SYNTAX, 5);
    }

    private static void wordsThatAreNoNames() {
        int at = THREE.length();
        for (String word : new String[] {"level", "down", "point", "line", "test", "set", "sight"}) {
            Check.bad("level " + word + " 0;", SYNTAX, 6);
            Check.bad("point " + word + ";", SYNTAX, 6);
            Check.bad(THREE + "line " + word + " b u 0 0 1 1;", SYNTAX, at + 5);
            Check.bad(THREE + "line a " + word + " u 0 0 1 1;", SYNTAX, at + 7);
            Check.bad(THREE + "line a b " + word + " 0 0 1 1;", SYNTAX, at + 9);
            Check.bad(THREE + "test " + word + " 0 0 1 1 0 0 1 1;", SYNTAX, at + 5);
            String longer = word + "s";
            String shorter = word.substring(1);
            String otherEnd = word.substring(0, word.length() - 1) + "z";
            String otherStart = "z" + word.substring(1);
            Check.good("point " + longer + ";level " + shorter + " 0;point " + otherEnd + ";point " + otherStart + ";", 4);
        }
    }

    private static void oneNameSpace() {
        Check.bad("level a 0;point a;", DUPLICATE, 16);
        Check.bad("point a;level a 0;", DUPLICATE, 14);
        Check.bad("point abcdef;level abcdef 0;", DUPLICATE, 19);
        Check.good("point abcdef;level abcdeg 0;level abcde 0;point a;", 4);
    }

    private static void behindDeclarations() {
        Check.good(THREE + LINE, 4);
        Check.bad("level u 0;point a;" + LINE + "point b;", NAME, 25);
        Check.bad("level u 0;point b;" + LINE + "point a;", NAME, 23);
        Check.bad("point a;point b;" + LINE + "level u 0;", NAME, 25);
        Check.bad(TEST + "level u 0;", NAME, 5);
        // Names of the network that is replaced are not declared in this text.
        LevelNetwork x = Check.network(THREE);
        Check.due("only this text declares", Check.load(x, LINE), NAME);
        Check.due("no declaration is left over", Check.load(x, THREE), 3);
    }

    private static void collimations() {
        Check.due("0", Check.good("level u 0;", 1).collimation(0), 0);
        Check.due("0 down", Check.good("level u 0 down;", 1).collimation(0), 0);
        Check.due("200", Check.good("level u 200;", 1).collimation(0), 200);
        Check.due("200 down", Check.good("level u 200 down;", 1).collimation(0), -200);
        Check.due("1 down", Check.good("level u 1 down;", 1).collimation(0), -1);
        Check.bad("level u 201;", RANGE, 8);
        Check.bad("level u 201 down;", RANGE, 8);
    }

    private static void heldPoints() {
        LevelNetwork x = Check.good("point a 0;point b;point c 9999999;", 3);
        Check.due("held at 0", x.heldAt(0), 0);
        Check.due("not held", x.heldAt(1), LevelNetwork.NOT_FOUND);
        Check.due("held at 9999999", x.heldAt(2), 9999999);
        Check.bad("point a 10000000;", RANGE, 8);
    }

    private static void given() {
        LevelNetwork x = Check.good("level u 0;level v 0;level w 0;" + Edge.points(16)
                + "line p a w 0 0 1 1;line b o v 0 0 1 1;" + "test w 0 0 1 1 0 0 1 1;test u 0 0 1 1 0 0 1 1;", 23);
        Check.due("the first point", x.lineProperty(0, 0), 15);
        Check.due("the second point", x.lineProperty(0, 1), 0);
        Check.due("the level", x.lineProperty(0, 2), 2);
        Check.due("the first point of line 1", x.lineProperty(1, 0), 1);
        Check.due("the second point of line 1", x.lineProperty(1, 1), 14);
        Check.due("the level of line 1", x.lineProperty(1, 2), 1);
        Check.due("the level of a test", x.testNumber(0, 0), 2);
        Check.due("the level of test 1", x.testNumber(1, 0), 0);
    }

    private static void ranges() {
        String[] least = {"0", "0", "1", "1"};
        String[] greatest = {"40000", "40000", "100", "100"};
        String[] above = {"40001", "40001", "101", "101"};
        for (int place = 0; place < 8; place++) {
            StringBuilder before = new StringBuilder("level u 0;test u");
            for (int k = 0; k < place; k++) {
                before.append(" 1");
            }
            String after = " 1".repeat(7 - place) + ";";
            int at = before.length() + 1;
            Check.good(before + " " + least[place % 4] + after, 2);
            Check.good(before + " " + greatest[place % 4] + after, 2);
            Check.bad(before + " " + above[place % 4] + after, RANGE, at);
            if (place % 4 > 1) {
                Check.bad(before + " 0" + after, RANGE, at);
            }
        }
    }

    // ---- errors

    private static void firstError() {
        Check.bad("level u 201;level u 0;;", RANGE, 8);
        Check.bad("point a;point a;level u 201;", DUPLICATE, 14);
        Check.bad("point a;;point a;", SYNTAX, 8);
        Check.bad("point a 10000000", RANGE, 8);
        Check.bad("point a 10000000 ?", RANGE, 8);
        Check.bad(THREE + "line c c c 40001 40001 0 0;", NAME, THREE.length() + 5);
        Check.bad(THREE + "line a a c 40001 40001 0 0;", DUPLICATE, THREE.length() + 7);
        Check.bad(THREE + "line a b c 40001 40001 0 0;", NAME, THREE.length() + 9);
        Check.bad(THREE + "line a b u 40001 40001 0 0;", RANGE, THREE.length() + 11);
        Check.bad(THREE + "line a b u 40000 40001 0 0;", RANGE, THREE.length() + 17);
        Check.bad(" \n  toleranceword", SYNTAX, 4);
        Check.bad("point a   \n 123456789", RANGE, 12);
        Check.bad(Edge.levels(3) + "  level u 201;", COUNT, 32);
    }

    private static void severalErrors() {
        // A ninth setup whose first integer is out of its range: RANGE_ERROR stands before COUNT_ERROR.
        String eight = THREE + "line a b u" + " 0 0 1 1".repeat(8);
        Check.bad(eight + " 40001 0 1 1;", RANGE, eight.length() + 1);
        Check.bad(eight + " 40000 0 1 1;", COUNT, eight.length() + 1);
        // A name that is none is no name that is declared, or not declared, or too many.
        Check.bad("point a;point sight;", SYNTAX, 14);
        Check.bad("point abcdef;point abcdefgh;", SYNTAX, 19);
        Check.bad(THREE + "line a down u", SYNTAX, THREE.length() + 7);
        Check.bad(Edge.levels(3) + "point level;", SYNTAX, 36);
        Check.bad(Edge.levels(3) + "point a level d 0;", SYNTAX, 38);
        // The fourth level's word comes before its name.
        Check.bad(Edge.levels(3) + "level u 201;", COUNT, 30);
        Check.bad("set sight 7;set sight 101;", DUPLICATE, 16);
    }

    private static void notAllowed() {
        String good = "level u 7 down;point a 7;point b;line a b u 0 0 1 1 0 0 1 1;test u 0 0 1 1 0 0 1 1;set sight 7;";
        Check.good(good, 6);
        for (int start = 0; start < good.length(); start = good.indexOf(';', start) + 1) {
            for (String wrong : new String[] {";", "5", "a", "down", "sight", "tolerance", "?", "\u00e9"}) {
                Check.bad(good.substring(0, start) + wrong + good.substring(start), SYNTAX, start);
            }
        }
        Check.bad("level level 7;", SYNTAX, 6);
        Check.bad("level u u;", SYNTAX, 8);
        Check.bad("level u;", SYNTAX, 7);
        Check.bad("set 5 5;", SYNTAX, 4);
    }

    private static void endsTooEarly() {
        String all = "level u 7 down;point a 7;point b;line a b u 0 0 1 1;test u 0 0 1 1 0 0 1 1;set sight 7;";
        int last = 0;
        for (int length = 1; length < all.length(); length++) {
            char before = all.charAt(length - 1);
            if (before == ';') {
                Check.good(all.substring(0, length), ++last);
            } else if (before == ' ' || all.charAt(length) == ' ' || all.charAt(length) == ';') {
                Check.bad(all.substring(0, length), SYNTAX, length);
                Check.bad(all.substring(0, length) + " \n\n", SYNTAX, length + 3);
            }
        }
        LevelNetwork x = new LevelNetwork();
        Check.feed(x, "point a;point b;");
        Check.due("the buffer goes on", x.load(13), SYNTAX);
        Check.due("the text does not", x.errorPosition(), 13);
        Check.bad("poin", SYNTAX, 0);
        Check.bad("point a;poin", SYNTAX, 8);
        // A token ends with the text, also where the buffer goes on with the like.
        cut("points a;", 5, 5);
        cut("point abcdefg;", 12, 12);
        cut("point ab;", 7, 7);
        cut("point a 55;", 9, 9);
        cut("point a 99999999;", 15, 15);
        cut("level u 20 down;", 14, 11);
        Check.bad(" ".repeat(1193) + "point a", SYNTAX, 1200);
        Check.bad(" ".repeat(1191) + "point a 5", SYNTAX, 1200);
        Check.bad(" ".repeat(1198) + "po", SYNTAX, 1198);
    }

    /** The first bytes of the text are a text that ends too early. */
    private static void cut(String text, int length, int position) {
        LevelNetwork x = new LevelNetwork();
        Check.feed(x, text);
        Check.due(length + " of " + text, x.load(length), SYNTAX);
        Check.due("position in " + length + " of " + text, x.errorPosition(), position);
    }

    private static void outsideRange() {
        Check.bad("level u 201;", RANGE, 8);
        Check.bad("point a 10000000;", RANGE, 8);
        Check.bad("set tolerance 501;", RANGE, 14);
        Check.bad("set sight 0;", RANGE, 10);
        Check.bad("set sight 101;", RANGE, 10);
        Check.bad("set balance 801;", RANGE, 12);
        Check.good("level u 200;point a 9999999;set tolerance 500;set sight 100;set balance 800;", 5);
        Check.good("level u 0;point a 0;set tolerance 0;set sight 1;set balance 0;", 5);
        int at = THREE.length() + 11;
        Check.good(THREE + "line a b u 40000 40000 100 100 0 0 1 1;", 4);
        Check.bad(THREE + "line a b u 40001 0 1 1;", RANGE, at);
        Check.bad(THREE + "line a b u 0 40001 1 1;", RANGE, at + 2);
        Check.bad(THREE + "line a b u 0 0 101 1;", RANGE, at + 4);
        Check.bad(THREE + "line a b u 0 0 0 1;", RANGE, at + 4);
        Check.bad(THREE + "line a b u 0 0 1 101;", RANGE, at + 6);
        Check.bad(THREE + "line a b u 0 0 1 0;", RANGE, at + 6);
        Check.bad(THREE + "line a b u" + " 0 0 1 1".repeat(7) + " 0 0 1 101;", RANGE, at + 7 * 8 + 6);
    }

    private static void wrongNames() {
        int at = THREE.length();
        Check.bad(THREE + "line c b u 0 0 1 1;", NAME, at + 5);
        Check.bad(THREE + "line a c u 0 0 1 1;", NAME, at + 7);
        Check.bad(THREE + "line a b c 0 0 1 1;", NAME, at + 9);
        Check.bad(THREE + "test c 0 0 1 1 0 0 1 1;", NAME, at + 5);
        // The name of a level is not that of a point, nor the other way round.
        Check.bad(THREE + "line u b u 0 0 1 1;", NAME, at + 5);
        Check.bad(THREE + "line a u u 0 0 1 1;", NAME, at + 7);
        Check.bad(THREE + "line a b b 0 0 1 1;", NAME, at + 9);
        Check.bad(THREE + "test a 0 0 1 1 0 0 1 1;", NAME, at + 5);
        Check.bad("line a", NAME, 5);
        Check.bad("test u", NAME, 5);
    }

    private static void declaredTwice() {
        Check.bad("level u 0;level u 1;", DUPLICATE, 16);
        Check.bad("point a;point a;", DUPLICATE, 14);
        Check.bad("point a;level a 0;", DUPLICATE, 14);
        Check.bad("level u 0;point u;", DUPLICATE, 16);
        Check.bad("level a 0;level b 0;level c 0;point c;", DUPLICATE, 36);
        String fifteen = Edge.points(15);
        Check.bad(fifteen + "point o;", DUPLICATE, 126);
        Check.bad(fifteen + "level o 0;", DUPLICATE, 126);
        Check.good(fifteen + "point q;", 16);
    }

    private static void samePoint() {
        Check.bad(THREE + "line a a u 0 0 1 1;", DUPLICATE, THREE.length() + 7);
        Check.bad(THREE + "line b b u 0 0 1 1;", DUPLICATE, THREE.length() + 7);
        Check.bad(THREE + LINE + "line b b", DUPLICATE, THREE.length() + LINE.length() + 7);
        Check.good(THREE + "line b a u 0 0 1 1;line a b u 0 0 1 1;", 5);
    }

    private static void settingTwice() {
        for (String name : new String[] {"tolerance", "sight", "balance"}) {
            String set = "set " + name + " 7;";
            Check.bad(set + set, DUPLICATE, set.length() + 4);
            Check.bad(set + "point a;set " + name, DUPLICATE, set.length() + 12);
            Check.bad(set + "set " + name + " 801;", DUPLICATE, set.length() + 4);
        }
        Check.bad("set tolerance 7;set sight 7;set balance 7;set tolerance 7;", DUPLICATE, 46);
        Check.bad("set balance 7;set tolerance 7;set sight 7;set balance 7;", DUPLICATE, 46);
        Check.bad("set sight 7;set balance 7;set sight 7;", DUPLICATE, 30);
        Check.good("set tolerance 7;set sight 7;set balance 7;", 3);
        LevelNetwork x = Check.network("set sight 7;");
        Check.due("given in another text", Check.load(x, "set sight 8;"), 1);
        Check.load(x, "set balance 7;?");
        Check.due("given in a text with an error", Check.load(x, "set balance 8;"), 1);
    }

    private static void fourthLevel() {
        String three = Edge.levels(3);
        Check.due("three", Check.good(three, 3).levelCount(), 3);
        Check.bad(three + "level x 0;", COUNT, 30);
        Check.bad(three + "level", COUNT, 30);
        Check.bad(three + "level;", COUNT, 30);
        Check.bad(three + "point a; level x 0;", COUNT, 39);
        Check.bad("level a 0;level b 0;level c 0;level d 0;level e 0;", COUNT, 30);
    }

    private static void point17() {
        String sixteen = Edge.points(16);
        Check.due("sixteen", Check.good(sixteen, 16).pointCount(), 16);
        Check.bad(sixteen + "point q;", COUNT, 128);
        Check.bad(sixteen + "point", COUNT, 128);
        Check.bad(sixteen + " point 7", COUNT, 129);
        Check.good(sixteen + "level u 0;", 17);
    }

    private static void line21() {
        String twenty = THREE + LINE.repeat(20);
        Check.due("twenty", Check.good(twenty, 23).lineCount(), 20);
        Check.bad(twenty + LINE, COUNT, twenty.length());
        Check.bad(twenty + "line", COUNT, twenty.length());
        Check.bad(twenty + "\nline a a", COUNT, twenty.length() + 1);
        Check.good(twenty + TEST, 24);
    }

    private static void seventhTest() {
        String six = "level u 0;" + TEST.repeat(6);
        Check.due("six", Check.good(six, 7).testCount(), 6);
        Check.bad(six + TEST, COUNT, six.length());
        Check.bad(six + "test", COUNT, six.length());
        Check.bad(six + " test a", COUNT, six.length() + 1);
        Check.good(six + "level v 0;", 8);
    }

    private static void ninthSetup() {
        String eight = THREE + "line a b u" + " 0 0 1 1".repeat(8);
        Check.due("eight", Check.good(eight + ";", 4).lineProperty(0, 3), 8);
        Check.bad(eight + " 0 0 1 1;", COUNT, eight.length() + 1);
        Check.bad(eight + " 0;", COUNT, eight.length() + 1);
        Check.bad(eight + " 0", COUNT, eight.length() + 1);
        Check.bad(eight + " \n 40000 a", COUNT, eight.length() + 3);
        Check.bad(eight + " a", SYNTAX, eight.length() + 1);
        Check.bad(eight, SYNTAX, eight.length());
        Check.good(eight + ";" + LINE, 5);
    }

    // ---- promises 2 and 3

    private static int feedSpaces(LevelNetwork x) {
        return x.feed(SPACES, SPACES, SPACES, SPACES, SPACES);
    }

    /** An object whose buffer holds 1200 spaces. */
    private static LevelNetwork filled() {
        LevelNetwork x = new LevelNetwork();
        int bytes = 0;
        for (int k = 0; k < 60; k++) {
            bytes = feedSpaces(x);
        }
        Check.due("60 feeds", bytes, 1200);
        return x;
    }

    /** A byte that is no space is found where this parameter's bytes stand. */
    private static void wrongByte(int parameter) {
        for (int k = 0; k < 4; k++) {
            int[] all = {SPACES, SPACES, SPACES, SPACES, SPACES};
            all[parameter] ^= 1 << (24 - 8 * k);
            LevelNetwork x = new LevelNetwork();
            feedSpaces(x);
            x.feed(all[0], all[1], all[2], all[3], all[4]);
            Check.due("byte " + k, x.load(40), SYNTAX);
            Check.due("the place of byte " + k, x.errorPosition(), 20 + 4 * parameter + k);
        }
    }

    private static void replaced() {
        LevelNetwork x = Check.network("set sight 1;set tolerance 1;set balance 1;level w 9;" + Edge.levels(2)
                + Edge.points(15) + "point z 5;" + LINE.repeat(20) + TEST.repeat(6));
        x.addSetup(0, 1, 2, 3, 4);
        x.setActive(1, false);
        x.adjust(1);
        Check.feed(x, "level l 3 down;point c;point d;line d c l 9 8 7 6;point e;");
        Check.due("the first bytes alone", x.load(50), 4);
        Check.due("levels", x.levelCount(), 1);
        Check.due("points", x.pointCount(), 2);
        Check.due("lines", x.lineCount(), 1);
        Check.due("tests", x.testCount(), 0);
        Check.due("tolerance", x.getSetting(0), 40);
        Check.due("sight", x.getSetting(1), 60);
        Check.due("balance", x.getSetting(2), 20);
        Check.due("the level", x.levelNamed(Check.name("l")), 0);
        Check.due("its collimation", x.collimation(0), -3);
        Check.due("no other level", x.levelNamed(Check.name("w")), LevelNetwork.NOT_FOUND);
        Check.due("no other point", x.pointNamed(Check.name("z")), LevelNetwork.NOT_FOUND);
        Check.due("not held", x.heldAt(0), LevelNetwork.NOT_FOUND);
        Check.due("one setup", x.lineProperty(0, 3), 1);
        Check.due("its rise", x.riseOf(0), 103);
        Check.due("no adjusted heights", x.isAdjusted(), false);
        Check.due("all active", x.linesAt(0), 1);
        Check.due("the empty text", x.load(0), 0);
        Check.due("no levels", x.levelCount(), 0);
        Check.due("no points", x.pointCount(), 0);
        Check.due("no lines", x.lineCount(), 0);
        Check.due("no tests", x.testCount(), 0);
        Check.due("no loops", x.loopCount(), 0);
        Check.due("no bridges", x.bridges(), 0);
    }

    private static void failedLoads() {
        String[] texts = {"?", "set sight 3;set balance 3;set tolerance 3;;", "level u 3;level v 201;", "point z;line y",
            "point c 7;point c 8;", Edge.points(16) + "point", Edge.levels(3) + LINE, THREE + LINE + TEST + "line a b u 9 9 9"};
        String before = Snapshot.of(TextEdges::changed);
        for (String text : texts) {
            String after = Snapshot.of(() -> {
                LevelNetwork x = changed();
                Check.load(x, text);
                return x;
            });
            Snapshot.same("after the load of " + text, after, before);
            LevelNetwork x = changed();
            Check.due("load of " + text, Check.load(x, text) <= SYNTAX, true);
            Check.due("nothing is left of " + text, x.load(1), LevelNetwork.BAD_VALUE);
            Check.due("the buffer is empty after " + text, feedSpaces(x), 20);
            Check.due("the changes stand", x.undoCount(), 3);
            x.undo();
            Check.due("not adjusted before", x.isAdjusted(), false);
            x.undo();
            Check.due("one setup before", x.lineProperty(0, 3), 1);
            x.undo();
            Check.due("the collimation before", x.collimation(0), 9);
        }
    }

    /** An object with three changes that can be undone. */
    private static LevelNetwork changed() {
        LevelNetwork x = Check.network("set sight 77;level u 9;point a 5;point b;line a b u 3 2 1 9;" + TEST);
        x.setCollimation(0, 8);
        x.addSetup(0, 7, 6, 5, 4);
        x.adjust(7);
        return x;
    }
}
