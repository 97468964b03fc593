/** WAYS, LOOPS and promises 26 to 42, sentence by sentence. */
final class WayEdges {
    private static final String FOUR = "level u 0;point a;point b;point c;point d;";

    private WayEdges() {
    }

    static void all() {
        ways();
        loops();
        linesAndParts();
        shortest();
        bridgesAndTrees();
        loopsByIndex();
        badLoops();
        suspects();
    }

    // ---- networks

    private static LevelNetwork four(String lines) {
        return Check.network(FOUR + lines);
    }

    /** Level points, lines of length 2 with these rises in tenths, between points that are told by their letters. */
    private static LevelNetwork rises(int points, String... lines) {
        StringBuilder text = new StringBuilder("level u 0;").append(Edge.points(points));
        for (String line : lines) {
            String[] told = line.split(" ");
            int rise = Integer.parseInt(told[1]);
            text.append("line ").append(told[0].charAt(0)).append(' ').append(told[0].charAt(1)).append(" u ");
            text.append(Math.max(rise, 0)).append(' ').append(Math.max(-rise, 0)).append(' ');
            text.append(told.length > 2 ? told[2] + " " + told[3] : "1 1").append(';');
        }
        return Check.network(text.toString());
    }

    /** A chain of all sixteen points along lines that are as long and rise as much as can be. */
    private static LevelNetwork longest() {
        LevelNetwork x = Check.network("level u 200 down;" + Edge.chain(16, "40000 0 100 1"));
        for (int line = 0; line < 15; line++) {
            for (int setup = 1; setup < 8; setup++) {
                x.addSetup(line, 40000, 0, 100, 1);
            }
        }
        return x;
    }

    private static LevelNetwork ring16() {
        return Check.network("level u 0;" + Edge.chain(16, "40000 0 100 100") + "line p a u 40000 0 100 100;");
    }

    // ---- WAYS

    private static void ways() {
        Edge.under("WAYS");
        Edge.says("Only active lines are gone along, in both directions.", () -> {
            LevelNetwork x = rises(4, "ab 1", "cb 20", "cd 300");
            Check.due("forwards, backwards, forwards", x.wayBetween(0, 3), 7);
            Check.due("and back", x.wayBetween(3, 0), 7);
            x.setActive(1, false);
            Check.due("not along a line that is not active", x.wayBetween(0, 3), 0);
            Check.due("nor back", x.wayBetween(3, 0), 0);
            Check.due("no distance", x.distance(0, 3), Edge.NOT_FOUND);
            Check.due("no rise", x.riseBetween(0, 3), Edge.NONE);
            Check.due("two parts", x.partCount(), 2);
            x.setActive(1, true);
            Check.due("active again", x.distance(0, 3), 6);
        });
        Edge.says("The distance of two points is the length of a shortest way.", () -> {
            LevelNetwork x = rises(4, "ad 0 3 4", "ab 0 1 1", "bc 0 1 1", "cd 0 1 1");
            Check.due("three short lines", x.distance(0, 3), 6);
            x.setReading(0, 0, 3, 2);
            Check.due("one line of 5", x.distance(0, 3), 5);
            x.setReading(0, 0, 3, 3);
            Check.due("both of 6", x.distance(0, 3), 6);
        });
        Edge.says("The shortest way from a point to another one is found from the other one backwards: at each point, the line"
                + " with the lowest index is taken that leads to a point whose distance from the first point is less by the"
                + " length of this line.", () -> {
            // Two ways from a to d, over b and over c, all lines alike.
            LevelNetwork x = rises(4, "ab 1", "ac 20", "cd 300", "bd 4000");
            Check.due("from d, line 2 is the lowest", x.wayBetween(0, 3), 0b0110);
            Check.due("from a, line 0 is the lowest", x.wayBetween(3, 0), 0b1001);
            Check.due("the rise over c", x.riseBetween(0, 3), 32000);
            Check.due("the rise over b", x.riseBetween(3, 0), -400100);
            x = rises(2, "ab 1", "ba 20", "ab 300");
            Check.due("of lines alike the lowest", x.wayBetween(0, 1), 0b001);
            x = rises(3, "ac 1 2 1", "ac 20 2 2", "ab 300", "bc 4000");
            Check.due("a line too short for it is none", x.wayBetween(0, 2), 0b001);
            x.setReading(0, 0, 2, 4);
            Check.due("now line 1 is as short as lines 2 and 3", x.wayBetween(0, 2), 0b010);
            // b is nearer to a by the length of line 0, c is not nearer by that of line 1.
            x = rises(4, "cd 1", "bd 20", "ab 300", "ac 4000 2 2");
            Check.due("not the lowest line, but the lowest that leads back", x.wayBetween(0, 3), 0b0110);
        });
    }

    // ---- LOOPS

    private static void loops() {
        Edge.under("LOOPS");
        Edge.says("For each point in ascending order that is not reached yet: it is reached, and put into a queue that is empty"
                + " before.", () -> {
            // From c on all lines would be tree lines but line 0; from a on line 2 is none.
            LevelNetwork x = rises(3, "ab 0", "ac 0", "bc 0");
            Check.due("from a on", x.treeLines(), 0b011);
            x = rises(5, "cd 0", "ce 0", "de 0", "ab 0", "ba 0");
            Check.due("each part has its tree", x.treeLines(), 0b01011);
            Check.due("a point without a line", rises(3, "bc 0").treeLines(), 1);
            x = rises(5, "bc 0", "cd 0", "bd 0", "ae 0", "ea 0");
            Check.due("from b on in the second part", x.treeLines(), 0b01101);
        });
        Edge.says("As long as the queue is not empty, its first point is taken, and for each active line of it, in ascending"
                + " order, whose other point is not reached, the line becomes a tree line, and the other point is reached and"
                + " put at the end of the queue.", () -> {
            LevelNetwork x = rises(4, "ad 0", "ac 0", "cb 0", "db 0");
            Check.due("d is reached first, and so taken first", x.treeLines(), 0b1011);
            x = rises(4, "ac 0", "ad 0", "cb 0", "db 0");
            Check.due("c is reached first, and so taken first", x.treeLines(), 0b0111);
            x = rises(4, "bc 0", "cd 0", "ab 0", "ac 0", "ad 0");
            Check.due("first all lines of a", x.treeLines(), 0b11100);
            x = rises(2, "ab 0", "ba 0", "ab 0");
            Check.due("the lowest of several", x.treeLines(), 0b001);
            x.setActive(0, false);
            Check.due("the lowest that is active", x.treeLines(), 0b010);
        });
        Edge.says("Each active line that is no tree line makes a loop", () -> {
            LevelNetwork x = rises(3, "ab 0", "ab 0", "bc 0", "ca 0", "cb 0");
            Check.due("tree lines 0 and 3", x.treeLines(), 0b01001);
            Check.due("three loops", x.loopCount(), 3);
            x.setActive(2, false);
            Check.due("one is not active", x.loopCount(), 2);
            Check.due("no loop in a chain", rises(3, "ab 0", "bc 0").loopCount(), 0);
        });
        Edge.says("loops are indexed from 0 in ascending order of these lines.", () -> {
            LevelNetwork x = rises(3, "ab 0", "ab 0", "bc 0", "ca 0", "cb 0");
            Check.due("loop 0", x.loopLine(0, 0), 1);
            Check.due("loop 1", x.loopLine(1, 0), 2);
            Check.due("loop 2", x.loopLine(2, 0), 4);
            x.setActive(1, false);
            Check.due("loop 0 without line 1", x.loopLine(0, 0), 2);
        });
        Edge.says("A loop goes along its own line from its first to its second point, and from there back to its first point"
                + " along tree lines, along none of them twice.", WayEdges::loopWays);
        Edge.says("Its misclosure is the sum of all rises on the way", () -> {
            LevelNetwork x = rises(4, "ab 1", "cb 20", "cd 300", "ad 4000");
            // The tree is lines 0, 1 and 3; line 2 goes from c to d, then back over a and b.
            Check.due("tree lines", x.treeLines(), 0b1011);
            Check.due("c d a b c", x.misclosure(0), 100 * (300 - 4000 + 1 - 20));
            Check.due("of two lines", rises(2, "ab 5", "ba 7").misclosure(0), 1200);
            Check.due("of two lines that agree", rises(2, "ab 5", "ab 5").misclosure(0), 0);
        });
        Edge.says("its length is the sum of the lengths of its lines.", () -> {
            LevelNetwork x = rises(4, "ab 0 1 2", "cb 0 10 20", "cd 0 40 50", "ad 0 3 3", "ac 0 100 100");
            Check.due("tree lines", x.treeLines(), 0b11001);
            Check.due("line 1 with 4 and 0", x.loopLength(0), 30 + 200 + 3);
            Check.due("line 2 with 3 and 4", x.loopLength(1), 90 + 6 + 200);
        });
        Edge.says("It is good if its misclosure, without the sign, is at most the square root of (10 times TOLERANCE times"
                + " TOLERANCE times its length), rounded down, and bad otherwise.", () -> {
            // 10 * 5 * 5 * 40 is the square of 100.
            LevelNetwork x = rises(2, "ab 0 10 10", "ab 1 10 10");
            x.setSetting(LevelNetwork.TOLERANCE, 5);
            Check.due("just as great is good", x.badLoops(), 0);
            x.setReading(1, 0, 1, 2);
            Check.due("without the sign", x.misclosure(0), -100);
            Check.due("and so good as well", x.badLoops(), 0);
            // 10 * 5 * 5 * 39 is below the square of 99.
            x.setReading(1, 0, 3, 9);
            Check.due("98.7 is rounded down to 98", x.allowed(0), 98);
            Check.due("-100 is bad", x.badLoops(), 1);
            x.setReading(1, 0, 1, 0);
            Check.due("100 is bad", x.badLoops(), 1);
            // The misclosure 99 by the collimation: bad with 98 allowed, though 98.7 is nearly as much.
            x = Check.network("level u 1;point a;point b;line a b u 0 0 10 10;line a b u 1 0 10 9;set tolerance 5;");
            Check.due("99", x.misclosure(0), 99);
            Check.due("98 is allowed", x.allowed(0), 98);
            Check.due("99 is bad", x.badLoops(), 1);
            x = rises(2, "ab 0", "ab 0");
            x.setSetting(LevelNetwork.TOLERANCE, 0);
            Check.due("0 at TOLERANCE 0 is good", x.badLoops(), 0);
        });
    }

    private static void loopWays() {
        way(rises(2, "ab 0", "ab 0"), 0, 1, 100);
        way(rises(2, "ab 0", "ba 0"), 0, 1, 0);
        way(rises(2, "ba 0", "ba 0"), 0, 1, 100);
        way(rises(3, "ab 0", "bc 0", "ca 0"), 0, 1, 2, 0);
        way(rises(3, "ba 0", "cb 0", "ac 0"), 0, 1, 0, 2);
        way(rises(3, "ab 0", "cb 0", "ca 0"), 0, 1, 100, 102);
        way(rises(4, "ab 0", "bc 0", "cd 0", "da 0"), 0, 2, 3, 0, 1);
        // The way goes up to where both ends' ways to the root meet, not to the root itself.
        way(rises(5, "ab 0", "bc 0", "bd 0", "cd 0"), 0, 3, 102, 1);
        // One end lies above the other: the way goes down only.
        LevelNetwork x = rises(6, "ab 0", "bc 0", "bd 0", "ce 0", "ef 0", "fb 0", "fd 0");
        Check.due("tree lines", x.treeLines(), 0b0101111);
        way(x, 0, 4, 5, 1, 3);
        way(x, 1, 6, 102, 105);
        x = ring16();
        // The tree goes from a both ways; line 8 from i to j is none.
        Check.due("tree lines of a ring", x.treeLines(), 0xfeff);
        way(x, 0, 8, 9, 10, 11, 12, 13, 14, 15, 0, 1, 2, 3, 4, 5, 6, 7);
    }

    private static void way(LevelNetwork x, int loop, int... due) {
        for (int k = 0; k < due.length; k++) {
            Check.due("loop " + loop + ", line " + k, x.loopLine(loop, k), due[k]);
        }
        Check.due("loop " + loop + " ends", x.loopLine(loop, due.length), Edge.NOT_FOUND);
    }

    // ---- promises 26 to 28

    private static void linesAndParts() {
        Edge.under("Promise 26: linesAt");
        Edge.says("Returns the active lines of a point.", () -> {
            LevelNetwork x = rises(4, "ab 0", "bc 0", "cb 0", "ba 0");
            Check.due("a", x.linesAt(0), 0b1001);
            Check.due("b", x.linesAt(1), 0b1111);
            Check.due("c", x.linesAt(2), 0b0110);
            x.setActive(2, false);
            Check.due("c without line 2", x.linesAt(2), 0b0010);
            Check.due("b without line 2", x.linesAt(1), 0b1011);
        });
        Edge.says("point: index of a point", () -> Edge.answersPoints(LevelNetwork::linesAt));
        Edge.says("Returns the lines as a bit set: bit k is 1 for line k.", () -> {
            LevelNetwork x = Edge.sized(1, 3, 20, 0);
            Check.due("all of them", x.linesAt(0), 0xfffff);
            Check.due("none of them", x.linesAt(2), 0);
            for (int line = 0; line < 19; line++) {
                x.setActive(line, false);
            }
            Check.due("the last one", x.linesAt(1), 1 << 19);
            x.setActive(19, false);
            Check.due("none is active", x.linesAt(1), 0);
        });
        Edge.says("Throws IndexOutOfBoundsException if point is not a valid index",
                () -> Edge.refusesPoints(LevelNetwork::linesAt));

        Edge.under("Promise 27: rootOf");
        Edge.says("Returns the lowest point to which a way leads from a point, that point itself included.", () -> {
            LevelNetwork x = rises(5, "dc 0", "eb 0", "ce 0");
            Check.due("a alone", x.rootOf(0), 0);
            for (int point = 1; point < 5; point++) {
                Check.due("root of " + point, x.rootOf(point), 1);
            }
            x.setActive(2, false);
            Check.due("c itself is the lowest", x.rootOf(2), 2);
            Check.due("c from d", x.rootOf(3), 2);
            Check.due("b from e", x.rootOf(4), 1);
        });
        Edge.says("point: index of a point", () -> Edge.answersPoints(LevelNetwork::rootOf));
        Edge.says("Returns the index of the point.", () -> {
            LevelNetwork x = longest();
            LevelNetwork y = Edge.sized(1, 16, 0, 0);
            for (int point = 0; point < 16; point++) {
                Check.due("in a chain from " + point, x.rootOf(point), 0);
                Check.due("alone, " + point, y.rootOf(point), point);
            }
        });
        Edge.says("Throws IndexOutOfBoundsException if point is not a valid index",
                () -> Edge.refusesPoints(LevelNetwork::rootOf));

        Edge.under("Promise 28: partCount");
        Edge.says("Returns the number of parts into which the points fall, from one of which no way leads to another one.", () -> {
            LevelNetwork x = rises(5, "dc 0", "eb 0", "ce 0");
            Check.due("two", x.partCount(), 2);
            x.setActive(2, false);
            Check.due("three", x.partCount(), 3);
            x.setActive(0, false);
            x.setActive(1, false);
            Check.due("five", x.partCount(), 5);
        });
        Edge.says("Returns 0 to 16.", () -> {
            Check.due("no points", new LevelNetwork().partCount(), 0);
            Check.due("one point", Edge.sized(1, 1, 0, 0).partCount(), 1);
            Check.due("sixteen points", Edge.sized(1, 16, 0, 0).partCount(), 16);
            Check.due("all in a chain", longest().partCount(), 1);
            Check.due("all in a ring", ring16().partCount(), 1);
        });
    }

    // ---- promises 29 to 31

    private static void shortest() {
        Edge.under("Promise 29: distance");
        Edge.says("Returns the distance of two points (see WAYS).", () -> {
            LevelNetwork x = rises(3, "ab 0 3 4", "cb 0 10 20");
            Check.due("over b", x.distance(0, 2), 37);
            Check.due("and back", x.distance(2, 0), 37);
        });
        Edge.says("point: index of a point", () -> Edge.answersPoints((x, point) -> x.distance(point, 0)));
        Edge.says("other: index of a point", () -> Edge.answersPoints((x, point) -> x.distance(0, point)));
        Edge.says("Returns the length in metres", () -> {
            LevelNetwork x = Check.network("level u 0;" + Edge.chain(16, "0 0 100 100"));
            for (int k = 0; k < 15 * 7; k++) {
                x.addSetup(k % 15, 0, 0, 100, 100);
            }
            Check.due("greatest", x.distance(0, 15), 15 * 1600);
            Check.due("greatest, back", x.distance(15, 0), 15 * 1600);
            Check.due("least", rises(2, "ab 0").distance(1, 0), 2);
        });
        Edge.says("0 for the same point", () -> {
            for (int point = 0; point < 16; point++) {
                Check.due("in a ring", ring16().distance(point, point), 0);
                Check.due("alone", Edge.sized(0, 16, 0, 0).distance(point, point), 0);
            }
        });
        Edge.says("NOT_FOUND if there is no way.", () -> {
            LevelNetwork x = rises(4, "ab 0", "cd 0");
            Check.due("another part", x.distance(0, 2), Edge.NOT_FOUND);
            Check.due("and back", x.distance(3, 1), Edge.NOT_FOUND);
            x.setActive(1, false);
            Check.due("not active", x.distance(2, 3), Edge.NOT_FOUND);
        });
        Edge.says("Throws IndexOutOfBoundsException if point or other is not a valid index",
                () -> refusesBoth(LevelNetwork::distance));

        Edge.under("Promise 30: riseBetween");
        Edge.says("Returns the rise along the shortest way from a point to another one (see WAYS).", () -> {
            LevelNetwork x = rises(3, "ab 3", "cb 40", "ca 500 3 2");
            Check.due("over b", x.riseBetween(0, 2), 300 - 4000);
            Check.due("and back", x.riseBetween(2, 0), 4000 - 300);
            x.setReading(2, 0, 3, 1);
            Check.due("as long as line 2, but line 1 is lower", x.riseBetween(0, 2), 300 - 4000);
            x.setReading(2, 0, 2, 2);
            Check.due("along the short line 2", x.riseBetween(0, 2), -50000);
        });
        Edge.says("point: index of a point", () -> Edge.answersPoints((x, point) -> x.riseBetween(point, 0)));
        Edge.says("other: index of a point", () -> Edge.answersPoints((x, point) -> x.riseBetween(0, point)));
        Edge.says("Returns the rise", () -> {
            // Each setup rises by 4000000 and 200 times 99.
            Check.due("greatest", longest().riseBetween(0, 15), 15 * 8 * 4019800);
            Check.due("least", longest().riseBetween(15, 0), -15 * 8 * 4019800);
        });
        Edge.says("0 for the same point", () -> {
            for (int point = 0; point < 16; point++) {
                Check.due("in a ring", ring16().riseBetween(point, point), 0);
                Check.due("alone", Edge.sized(0, 16, 0, 0).riseBetween(point, point), 0);
            }
        });
        Edge.says("NONE if there is no way.", () -> {
            LevelNetwork x = rises(4, "ab 7", "cd 7");
            Check.due("another part", x.riseBetween(0, 2), Edge.NONE);
            Check.due("and back", x.riseBetween(3, 1), Edge.NONE);
            x.setActive(1, false);
            Check.due("not active", x.riseBetween(2, 3), Edge.NONE);
        });
        Edge.says("Throws IndexOutOfBoundsException if point or other is not a valid index",
                () -> refusesBoth(LevelNetwork::riseBetween));

        Edge.under("Promise 31: wayBetween");
        Edge.says("Returns the lines along the shortest way from a point to another one (see WAYS).", () -> {
            LevelNetwork x = rises(3, "ab 3", "cb 40", "ca 500 3 2");
            Check.due("over b", x.wayBetween(0, 2), 0b011);
            x.setReading(2, 0, 2, 1);
            Check.due("along line 2", x.wayBetween(0, 2), 0b100);
        });
        Edge.says("point: index of a point", () -> Edge.answersPoints((x, point) -> x.wayBetween(point, 0)));
        Edge.says("other: index of a point", () -> Edge.answersPoints((x, point) -> x.wayBetween(0, point)));
        Edge.says("Returns the lines as a bit set", () -> {
            Check.due("all of a chain", longest().wayBetween(0, 15), 0x7fff);
            LevelNetwork x = Edge.sized(1, 2, 20, 0);
            for (int line = 0; line < 19; line++) {
                x.setActive(line, false);
            }
            Check.due("the last line", x.wayBetween(0, 1), 1 << 19);
        });
        Edge.says("0 for the same point", () -> {
            for (int point = 0; point < 16; point++) {
                Check.due("in a ring", ring16().wayBetween(point, point), 0);
            }
        });
        Edge.says("or if there is no way.", () -> {
            LevelNetwork x = rises(4, "ab 7", "cd 7");
            Check.due("another part", x.wayBetween(0, 2), 0);
            Check.due("and back", x.wayBetween(3, 1), 0);
            x.wayBetween(0, 1);
            Check.due("no lines of the way before", x.wayBetween(0, 3), 0);
        });
        Edge.says("Throws IndexOutOfBoundsException if point or other is not a valid index",
                () -> refusesBoth(LevelNetwork::wayBetween));
    }

    interface AskedTwice {
        long of(LevelNetwork x, int point, int other);
    }

    static void refusesBoth(AskedTwice asked) {
        Edge.refusesPoints((x, point) -> asked.of(x, point, 0));
        Edge.refusesPoints((x, point) -> asked.of(x, 0, point));
        Edge.refusesPoints((x, point) -> asked.of(x, point, point));
    }

    // ---- promises 32 to 34

    private static void bridgesAndTrees() {
        Edge.under("Promise 32: bridges");
        Edge.says("Returns the lines without which their two points would have no way to each other any more.", () -> {
            Check.due("no lines", new LevelNetwork().bridges(), 0);
            Check.due("a line alone", rises(2, "ab 0").bridges(), 1);
            Check.due("a double line", rises(2, "ab 0", "ba 0").bridges(), 0);
            Check.due("a ring", ring16().bridges(), 0);
            Check.due("between two rings, and behind them", rises(8, "ab 0", "bc 0", "ca 0", "cd 0", "de 0", "ef 0", "fd 0", "fg 0").bridges(),
                    1 << 3 | 1 << 7);
            Check.due("the first line, before a ring", rises(5, "ab 0", "bc 0", "cd 0", "db 0", "ce 0").bridges(), 0b10001);
            // b hangs together with each ring: no line is a bridge, though b is in both.
            Check.due("two rings at one point", rises(5, "ab 0", "bc 0", "ca 0", "bd 0", "de 0", "eb 0").bridges(), 0);
        });
        Edge.says("Returns the active lines for which this is so, as a bit set.", () -> {
            LevelNetwork x = rises(3, "ab 0", "bc 0", "ca 0");
            x.setActive(2, false);
            Check.due("both others", x.bridges(), 0b011);
            x.setActive(0, false);
            Check.due("only active ones", x.bridges(), 0b010);
            Check.due("a chain of sixteen", longest().bridges(), 0x7fff);
            x = Edge.sized(1, 2, 20, 0);
            for (int line = 0; line < 19; line++) {
                Check.due("none yet", x.bridges(), 0);
                x.setActive(line, false);
            }
            Check.due("the last line", x.bridges(), 1 << 19);
        });

        Edge.under("Promise 33: treeLines");
        Edge.says("Returns the tree lines (see LOOPS).", () -> {
            Check.due("no lines", new LevelNetwork().treeLines(), 0);
            Check.due("a ring", ring16().treeLines(), 0xfeff);
            LevelNetwork x = rises(3, "ab 0", "bc 0", "ca 0");
            Check.due("lines 0 and 2", x.treeLines(), 0b101);
            x.setActive(2, false);
            Check.due("lines 0 and 1", x.treeLines(), 0b011);
        });
        Edge.says("Returns the lines as a bit set.", () -> {
            Check.due("a chain of sixteen", longest().treeLines(), 0x7fff);
            LevelNetwork x = Edge.sized(1, 2, 20, 0);
            for (int line = 0; line < 20; line++) {
                Check.due("the lowest that is active", x.treeLines(), 1 << line);
                x.setActive(line, false);
            }
            Check.due("none is active", x.treeLines(), 0);
        });

        Edge.under("Promise 34: loopCount");
        Edge.says("Returns the number of loops.", () -> {
            LevelNetwork x = rises(4, "ab 0", "bc 0", "ca 0", "ac 0", "ad 0");
            Check.due("two", x.loopCount(), 2);
            x.setActive(0, false);
            Check.due("one", x.loopCount(), 1);
            x.setActive(3, false);
            Check.due("none", x.loopCount(), 0);
        });
        Edge.says("Returns 0 to 20.", () -> {
            Check.due("a new object", new LevelNetwork().loopCount(), 0);
            Check.due("as many as can be", Edge.sized(1, 2, 20, 0).loopCount(), 19);
        });
    }

    // ---- promises 35 to 38

    private static void loopsByIndex() {
        Edge.under("Promise 35: loopLine");
        Edge.says("Returns a line of a loop.", () -> way(rises(3, "ab 0", "cb 0", "ca 0"), 0, 1, 100, 102));
        Edge.says("loop: index of a loop", () -> Edge.answersLoops((x, loop) -> x.loopLine(loop, 0)));
        Edge.says("k: 0 for the own line of the loop, 1 for the line that comes next on its way, and so on", () -> {
            LevelNetwork x = Edge.sized(1, 2, 20, 0);
            for (int loop = 0; loop < 19; loop++) {
                Check.due("the own line of " + loop, x.loopLine(loop, 0), loop + 1);
                Check.due("the next line of " + loop, x.loopLine(loop, 1), 100);
            }
            way(ring16(), 0, 8, 9, 10, 11, 12, 13, 14, 15, 0, 1, 2, 3, 4, 5, 6, 7);
        });
        Edge.says("Returns the index of the line, plus 100 if the loop goes from its second to its first point", () -> {
            way(rises(2, "ab 0", "ab 0"), 0, 1, 100);
            way(rises(2, "ba 0", "ab 0"), 0, 1, 0);
            LevelNetwork x = Edge.sized(1, 2, 20, 0);
            for (int line = 0; line < 18; line++) {
                x.setActive(line, false);
            }
            way(x, 0, 19, 118);
        });
        Edge.says("NOT_FOUND if there is no such line.", () -> {
            LevelNetwork x = rises(3, "ab 0", "bc 0", "ca 0", "ab 0");
            for (int k : Edge.outside(3)) {
                Check.due("k " + k + " of three", x.loopLine(0, k), Edge.NOT_FOUND);
            }
            Check.due("k 2 of two, behind one of three", x.loopLine(1, 2), Edge.NOT_FOUND);
            for (int k : Edge.outside(16)) {
                Check.due("k " + k + " of sixteen", ring16().loopLine(0, k), Edge.NOT_FOUND);
            }
        });
        Edge.says("Throws IndexOutOfBoundsException if loop is not a valid index",
                () -> Edge.refusesLoops((x, loop) -> x.loopLine(loop, 0)));
        Edge.says("(checked first)", () -> {
            Edge.refusesLoops((x, loop) -> x.loopLine(loop, -1));
            Edge.refusesLoops((x, loop) -> x.loopLine(loop, 2));
        });

        Edge.under("Promise 36: loopLength");
        Edge.says("Returns the length of a loop.", () -> {
            LevelNetwork x = rises(3, "ab 0 1 2", "bc 0 10 20", "ca 0 3 50", "ab 0 1 1");
            Check.due("three lines", x.loopLength(0), 86);
            Check.due("two lines", x.loopLength(1), 5);
        });
        Edge.says("loop: index of a loop", () -> Edge.answersLoops(LevelNetwork::loopLength));
        Edge.says("Returns the length in metres.", () -> {
            Check.due("least", rises(2, "ab 0", "ab 0").loopLength(0), 4);
            LevelNetwork x = longestRing();
            Check.due("greatest", x.loopLength(0), 16 * 1600);
        });
        Edge.says("Throws IndexOutOfBoundsException if loop is not a valid index",
                () -> Edge.refusesLoops(LevelNetwork::loopLength));

        Edge.under("Promise 37: misclosure");
        Edge.says("Returns the misclosure of a loop.", () -> {
            LevelNetwork x = rises(3, "ab 1", "bc 20", "ac 300", "ba 4000");
            Check.due("three lines", x.misclosure(0), 100 * (20 - 300 + 1));
            Check.due("two lines", x.misclosure(1), 100 * (4000 + 1));
        });
        Edge.says("loop: index of a loop", () -> Edge.answersLoops(LevelNetwork::misclosure));
        Edge.says("Returns the misclosure.", () -> {
            LevelNetwork x = longestRing();
            Check.due("greatest", x.misclosure(0), 16 * 8 * 4000000);
            x = Check.network("level u 0;" + Edge.chain(16, "0 40000 1 1") + "line p a u 0 40000 1 1;");
            Check.due("below 0", x.misclosure(0), -16 * 4000000);
            Check.due("none", rises(2, "ab 5", "ab 5").misclosure(0), 0);
        });
        Edge.says("Throws IndexOutOfBoundsException if loop is not a valid index",
                () -> Edge.refusesLoops(LevelNetwork::misclosure));

        Edge.under("Promise 38: allowed");
        Edge.says("Returns the greatest misclosure with which a loop is good.", () -> {
            // 10 * 10 * 10 * 40 is the square of 200.
            LevelNetwork x = rises(2, "ab 0 10 10", "ab 2 10 10");
            x.setSetting(LevelNetwork.TOLERANCE, 10);
            Check.due("200", x.allowed(0), 200);
            Check.due("good with 200", x.badLoops(), 0);
            x.setReading(1, 0, 0, 3);
            Check.due("bad with 300", x.badLoops(), 1);
        });
        Edge.says("loop: index of a loop", () -> Edge.answersLoops(LevelNetwork::allowed));
        Edge.says("Returns the square root (see LOOPS), rounded down.", () -> {
            // tolerance, two distances of line 1, the root; line 0 has the length 2.
            int[][] due = {{1, 1, 1, 6}, {1, 7, 1, 10}, {1, 6, 1, 9}, {0, 100, 100, 0}, {5, 37, 1, 100}, {5, 36, 1, 98},
                {5, 38, 1, 101}, {500, 100, 100, 22472}, {500, 1, 1, 3162}, {40, 1, 1, 252}, {499, 100, 100, 22427}};
            for (int[] one : due) {
                LevelNetwork x = rises(2, "ab 0", "ab 0 " + one[1] + " " + one[2]);
                x.setSetting(LevelNetwork.TOLERANCE, one[0]);
                Check.due("of 10 * " + one[0] + " * " + one[0] + " * " + (2 + one[1] + one[2]), x.allowed(0), one[3]);
            }
            LevelNetwork x = longestRing();
            x.setSetting(LevelNetwork.TOLERANCE, 500);
            Check.due("greatest", x.allowed(0), 252982);
        });
        Edge.says("Throws IndexOutOfBoundsException if loop is not a valid index",
                () -> Edge.refusesLoops(LevelNetwork::allowed));
    }

    private static LevelNetwork longestRing() {
        LevelNetwork x = ring16();
        for (int k = 0; k < 16 * 7; k++) {
            x.addSetup(k % 16, 40000, 0, 100, 100);
        }
        return x;
    }

    // ---- promises 39 and 40

    private static void badLoops() {
        Edge.under("Promise 39: badLoops");
        Edge.says("Returns the bad loops.", () -> {
            LevelNetwork x = rises(2, "ab 0", "ab 9", "ab 0", "ab 9");
            Check.due("loops 0 and 2", x.badLoops(), 0b101);
            x.setActive(1, false);
            Check.due("now loop 1", x.badLoops(), 0b010);
            x.setSetting(LevelNetwork.TOLERANCE, 500);
            Check.due("none", x.badLoops(), 0);
        });
        Edge.says("Returns the loops as a bit set: bit k is 1 for loop k.", () -> {
            Check.due("no loops", new LevelNetwork().badLoops(), 0);
            LevelNetwork x = Edge.sized(1, 2, 20, 0);
            Check.due("all good", x.badLoops(), 0);
            x.setReading(19, 0, 0, 9);
            Check.due("the last one", x.badLoops(), 1 << 18);
            x.setReading(19, 0, 0, 0);
            x.setReading(0, 0, 0, 9);
            Check.due("all nineteen", x.badLoops(), 0x7ffff);
        });

        Edge.under("Promise 40: worstLoop");
        Edge.says("Returns the loop whose misclosure, without the sign, exceeds what is allowed most.", () -> {
            LevelNetwork x = rises(2, "ab 0", "ab 8", "ba 0", "ba 9");
            Check.due("900", x.worstLoop(), 2);
            x = rises(2, "ab 10", "ab 18", "ab 0", "ab 19");
            Check.due("-1000, without the sign", x.worstLoop(), 1);
            // 10 * 40 * 40 * 199 has the root 1784, and 10 * 40 * 40 * 4 has 252.
            x = rises(2, "ab 0", "ab 30 97 100", "ab 20");
            Check.due("allowed in loop 0", x.allowed(0), 1784);
            Check.due("allowed in loop 1", x.allowed(1), 252);
            Check.due("1748 is more than 1216", x.worstLoop(), 1);
        });
        Edge.says("Ties are broken by lower index.", () -> {
            Check.due("all alike", rises(2, "ab 0", "ab 9", "ba 9", "ab 9").worstLoop(), 0);
            Check.due("the last two alike", rises(2, "ab 0", "ab 8", "ba 9", "ab 9").worstLoop(), 1);
        });
        Edge.says("Returns the index of the loop", () -> {
            LevelNetwork x = Edge.sized(1, 2, 20, 0);
            x.setReading(19, 0, 0, 9);
            Check.due("the last one", x.worstLoop(), 18);
        });
        Edge.says("NOT_FOUND if no loop is bad.", () -> {
            Check.due("no loops", new LevelNetwork().worstLoop(), Edge.NOT_FOUND);
            Check.due("a good loop", rises(2, "ab 0", "ab 2").worstLoop(), Edge.NOT_FOUND);
            // 10 * 5 * 5 * 40 is the square of 100.
            LevelNetwork x = rises(2, "ab 0 10 10", "ab 1 10 10");
            x.setSetting(LevelNetwork.TOLERANCE, 5);
            Check.due("just good", x.worstLoop(), Edge.NOT_FOUND);
            x.setSetting(LevelNetwork.TOLERANCE, 4);
            Check.due("bad", x.worstLoop(), 0);
            x = rises(2, "ab 0", "ab 0");
            x.setSetting(LevelNetwork.TOLERANCE, 0);
            Check.due("0 of 0", x.worstLoop(), Edge.NOT_FOUND);
            x = rises(2, "ab 0", "ab 0", "ab 9");
            Check.due("loop 1", x.worstLoop(), 1);
            x.setActive(2, false);
            Check.due("no loop 1 any more", x.worstLoop(), Edge.NOT_FOUND);
            x = Check.network("level u 1;point a;point b;line a b u 0 0 10 10;line a b u 1 0 10 9;set tolerance 5;");
            Check.due("bad by 1, 99 of 98", x.worstLoop(), 0);
        });
    }

    // ---- promises 41 and 42

    private static void suspects() {
        Edge.under("Promise 41: suspectLine");
        Edge.says("Returns the line that is in the most bad loops, of those that are in no good loop.", () -> {
            // The tree is lines 0 and 1; line 1 is in both bad loops.
            LevelNetwork x = rises(3, "ab 0", "ac 99", "bc 0", "cb 0");
            Check.due("tree lines", x.treeLines(), 0b0011);
            Check.due("both are bad", x.badLoops(), 0b11);
            Check.due("line 0 is in both too", x.suspectLine(), 0);
            // A good loop over line 0 leaves line 1.
            x = rises(3, "ab 0", "ac 99", "bc 0", "cb 0", "ab 0");
            Check.due("loop 2 is good", x.badLoops(), 0b011);
            Check.due("line 1", x.suspectLine(), 1);
            x = rises(3, "ab 0", "ac 0", "bc 99", "ab 0", "ac 0");
            Check.due("both tree lines are in good loops", x.suspectLine(), 2);
            x = rises(3, "ba 0", "ab 50", "ac 0", "ac 0", "cb 0");
            Check.due("loops 0 and 2 of line 1 and line 4", x.badLoops(), 0b001);
            Check.due("the own line of the only bad loop", x.suspectLine(), 1);
            // One line is in one bad loop, a higher one is in two.
            x = rises(4, "ab 0", "ab 50", "ab 0", "ac 0", "cd 50", "ac 0", "dc 0", "cd 0");
            Check.due("tree lines", x.treeLines(), 0b00011001);
            Check.due("loops of lines 1, 6 and 7", x.badLoops(), 0b11001);
            Check.due("line 4 is in two", x.suspectLine(), 4);
        });
        Edge.says("Ties are broken by lower index.", () -> {
            Check.due("lines 0 and 1", rises(2, "ab 0", "ab 9").suspectLine(), 0);
            Check.due("line 0 is in no loop", rises(3, "ab 0", "bc 0", "cb 9").suspectLine(), 1);
            LevelNetwork x = rises(2, "ab 0", "ab 9", "ab 0", "ab 9");
            Check.due("lines 1 and 3", x.suspectLine(), 1);
            x.setReading(1, 0, 0, 0);
            Check.due("line 3", x.suspectLine(), 3);
        });
        Edge.says("Returns the index of the line", () -> {
            LevelNetwork x = Edge.sized(1, 2, 20, 0);
            x.setReading(19, 0, 0, 9);
            Check.due("the last one", x.suspectLine(), 19);
        });
        Edge.says("NOT_FOUND if no line is in a bad loop and in no good one.", () -> {
            Check.due("no lines", new LevelNetwork().suspectLine(), Edge.NOT_FOUND);
            Check.due("no loop", rises(2, "ab 9").suspectLine(), Edge.NOT_FOUND);
            Check.due("a good loop alone", rises(2, "ab 0", "ab 0").suspectLine(), Edge.NOT_FOUND);
            LevelNetwork x = rises(2, "ab 0", "ab 9");
            x.setActive(1, false);
            Check.due("the bad one is not active", x.suspectLine(), Edge.NOT_FOUND);
            // 10 * 5 * 5 * 40 is the square of 100: loop 0 is just good, and its line 0 is in it.
            x = rises(2, "ab 0 10 10", "ab 1 10 10", "ab 9 10 10");
            x.setSetting(LevelNetwork.TOLERANCE, 5);
            Check.due("loop 1 is bad", x.badLoops(), 0b10);
            Check.due("line 0 is in a loop that is just good", x.suspectLine(), 2);
            x.setSetting(LevelNetwork.TOLERANCE, 4);
            Check.due("now in two bad ones", x.suspectLine(), 0);
            x.setSetting(LevelNetwork.TOLERANCE, 500);
            Check.due("all are good", x.suspectLine(), Edge.NOT_FOUND);
            x = Check.network("level u 1;point a;point b;line a b u 0 0 10 10;line a b u 1 0 10 9;set tolerance 5;");
            Check.due("bad by 1, 99 of 98", x.suspectLine(), 0);
            // The loops of a network before, or of more lines, are none of this one.
            x = rises(3, "ab 0", "ab 9", "bc 0", "bc 0");
            Check.due("loop 1 is good", x.suspectLine(), 0);
            x = rises(2, "ab 0", "ab 9", "ab 0");
            Check.due("loop 1 is good, line 0 is in it", x.suspectLine(), 1);
            x.setActive(2, false);
            Check.due("no loop 1 any more", x.suspectLine(), 0);
        });

        Edge.under("Promise 42: badWithout");
        Edge.says("Returns how many loops would be bad if a line were not active.", () -> {
            LevelNetwork x = rises(2, "ab 0", "ab 9", "ab 0", "ab 0");
            Check.due("now", x.badLoops(), 0b001);
            // Without the tree line 0 the bad line 1 becomes a tree line.
            Check.due("without line 0", x.badWithout(0), 2);
            Check.due("without line 1", x.badWithout(1), 0);
            Check.due("without line 2", x.badWithout(2), 1);
            Check.due("the line is active still", x.linesAt(0), 0b1111);
            Check.due("no change", x.undoCount(), 0);
            x.setActive(1, false);
            Check.due("a line that is not active", x.badWithout(1), 0);
            x.setActive(1, true);
            x.setActive(2, false);
            Check.due("another line that is not active", x.badWithout(2), 1);
        });
        Edge.says("line: index of a line", () -> Edge.answersLines(LevelNetwork::badWithout));
        Edge.says("Returns the number of loops.", () -> {
            LevelNetwork x = Edge.sized(1, 2, 20, 0);
            Check.due("all good", x.badWithout(7), 0);
            x.setReading(0, 0, 0, 9);
            Check.due("without the one bad line", x.badWithout(0), 0);
            Check.due("without a good one", x.badWithout(19), 18);
            x.setReading(0, 0, 0, 0);
            x.setReading(1, 0, 0, 9);
            Check.due("without the first line", x.badWithout(0), 18);
            Check.due("the last loop left", rises(2, "ab 0", "ab 9").badWithout(1), 0);
            Check.due("a line without a loop", rises(3, "ab 0", "ab 9", "bc 0").badWithout(2), 1);
        });
        Edge.says("Throws IndexOutOfBoundsException if line is not a valid index",
                () -> Edge.refusesLines(LevelNetwork::badWithout));
    }
}
