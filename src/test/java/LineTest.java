/** Promises 5 to 25: what there is, settings, tests, and what is asked of a single line. */
public final class LineTest {
    private static final int NONE = LevelNetwork.NONE;
    private static final int NOT_FOUND = LevelNetwork.NOT_FOUND;
    private static final int BAD_VALUE = LevelNetwork.BAD_VALUE;

    private static final String TEXT = "level u 30;level w 15 down;point a 1000;point b;point c;point d;"
            + "line a b u 12000 10000 50 30 9000 9500 20 60;"
            + "line b a w 10000 11490 40 41;"
            + "line b c w 0 40000 100 1;"
            + "line b a u 5 5 1 1;"
            + "line d c w 7 7 2 2;";

    public static void main(String[] args) {
        counts();
        names();
        settings();
        collimations();
        tests();
        held();
        properties();
        readings();
        rises();
        faults();
        turning();
        pairs();
        indexes();
        Check.end();
    }

    private static void counts() {
        LevelNetwork x = Check.network("level a 1;level b 1;level c 1;point d;point e;line d e a 1 1 1 1;"
                + "test a 1 1 1 1 1 1 1 1;test b 1 1 1 1 1 1 1 1;test b 1 1 1 1 1 1 1 1;test b 1 1 1 1 1 1 1 1;");
        Check.due("5: levels", x.levelCount(), 3);
        Check.due("6: points", x.pointCount(), 2);
        Check.due("7: lines", x.lineCount(), 1);
        Check.due("8: tests", x.testCount(), 4);
        Check.due("9: nothing to undo", x.undoCount(), 0);
        x.hold(0, 1);
        Check.due("9: one change", x.undoCount(), 1);
    }

    private static void names() {
        LevelNetwork x = Check.network("level a 1;level ab 1;point b;point ba;point zzzzzz;");
        Check.due("10: a", x.levelNamed(1 << 25), 0);
        Check.due("10: ab", x.levelNamed(1 << 25 | 2 << 20), 1);
        Check.due("10: the name of a point", x.levelNamed(2 << 25), NOT_FOUND);
        Check.due("10: nothing", x.levelNamed(0), NOT_FOUND);
        Check.due("10: a letter in the lowest group", x.levelNamed(1), NOT_FOUND);
        Check.due("10: a gap in the name", x.levelNamed(1 << 25 | 2 << 15), NOT_FOUND);
        Check.due("10: a bit above the groups", x.levelNamed(1 << 30 | 1 << 25), NOT_FOUND);
        Check.due("10: below 0", x.levelNamed(1 << 31 | 1 << 25), NOT_FOUND);
        Check.due("11: b", x.pointNamed(2 << 25), 0);
        Check.due("11: ba", x.pointNamed(2 << 25 | 1 << 20), 1);
        Check.due("11: zzzzzz", x.pointNamed(Check.name("zzzzzz")), 2);
        Check.due("11: zzzzz", x.pointNamed(Check.name("zzzzz")), NOT_FOUND);
        Check.due("11: the name of a level", x.pointNamed(1 << 25), NOT_FOUND);
        Check.due("11: below 0", x.pointNamed(-1), NOT_FOUND);
        Check.due("11: nothing", new LevelNetwork().pointNamed(0), NOT_FOUND);
        Check.due("10: nothing in a new object", new LevelNetwork().levelNamed(0), NOT_FOUND);
    }

    private static void settings() {
        LevelNetwork x = Check.network("set tolerance 7;set balance 9;");
        Check.due("12: tolerance", x.getSetting(LevelNetwork.TOLERANCE), 7);
        Check.due("12: sight", x.getSetting(LevelNetwork.SIGHT), 60);
        Check.due("12: balance", x.getSetting(LevelNetwork.BALANCE), 9);
        for (int setting : new int[] {-1, 3, Integer.MAX_VALUE, Integer.MIN_VALUE}) {
            Check.due("12: no setting", x.getSetting(setting), BAD_VALUE);
        }
    }

    private static void collimations() {
        LevelNetwork x = Check.network(TEXT);
        Check.due("13: up", x.collimation(0), 30);
        Check.due("13: down", x.collimation(1), -15);
    }

    private static void tests() {
        LevelNetwork x = Check.network("level u 0;level w 0;"
                + "test w 1200 1000 30 10 1150 1000 10 30;" // 100 * 50 / 40 = 125
                + "test u 1000 1200 30 10 1000 1150 10 31;" // 100 * -50 / 41 = -121.9
                + "test u 1200 1000 30 10 1150 1000 31 11;" // no difference of the distances
                + "test u 1000 920 50 10 1000 1000 10 10;" // 100 * 80 / 40 = 200
                + "test u 1000 1081 50 10 1000 1000 10 10;" // 100 * -81 / 40 = -202.5
                + "test u 40000 0 1 100 0 40000 100 1;"); // 100 * 80000 / -198
        due("13 14: test 0", x, 0, 1, 125, 50);
        due("14: rounded towards 0", x, 1, 0, -121, -50);
        due("14: no result", x, 2, 0, NONE, 50);
        due("14: the greatest result", x, 3, 0, 200, 80);
        due("14: too small a result", x, 4, 0, NONE, -81);
        due("14: far too small a result", x, 5, 0, NONE, 80000);
        x = Check.network("level u 0;"
                + "test u 1000 999 1 1 1000 1000 1 2;" // 100 * 1 / 1
                + "test u 1000 1000 1 1 1000 998 1 2;" // 100 * -2 / 1
                + "test u 1003 1000 1 2 1000 1000 1 1;" // 100 * 3 / -1
                + "test u 2009 1000 6 1 1000 1000 1 2;" // 100 * 1009 / 6
                + "test u 1012 1000 6 1 1000 1000 1 2;" // 100 * 12 / 6 = 200
                + "test u 1000 1012 6 1 1000 1000 1 3;"); // 100 * -12 / 7 = -171.4
        due("14: positive", x, 0, 0, 100, 1);
        due("14: least result", x, 1, 0, -200, -2);
        due("14: a divisor below 0", x, 2, 0, NONE, 3);
        due("14: too great", x, 3, 0, NONE, 1009);
        due("14: exactly 200", x, 4, 0, 200, 12);
        due("14: rounded up, below 0", x, 5, 0, -171, -12);
        x = Check.network("level u 0;"
                + "test u 401 0 100 1 0 0 1 100;" // 100 * 401 / 198 = 202.5
                + "test u 397 0 100 1 0 0 1 100;" // 100 * 397 / 198 = 200.5, rounded to 200
                + "test u 0 397 100 1 0 0 1 100;"
                + "test u 0 1 100 1 0 0 1 100;" // -0.5
                + "test u 0 0 100 1 0 0 1 100;");
        due("14: 202.5", x, 0, 0, NONE, 401);
        due("14: 200.5", x, 1, 0, 200, 397);
        due("14: -200.5", x, 2, 0, -200, -397);
        due("14: -0.5", x, 3, 0, 0, -1);
        due("14: 0", x, 4, 0, 0, 0);
        for (int what : new int[] {-1, 3, Integer.MAX_VALUE, Integer.MIN_VALUE}) {
            Check.due("14: any other what", x.testNumber(0, what), NONE);
        }
    }

    private static void due(String what, LevelNetwork x, int test, int level, int result, int gap) {
        Check.due(what + ", level", x.testNumber(test, 0), level);
        Check.due(what + ", result", x.testNumber(test, 1), result);
        Check.due(what + ", difference", x.testNumber(test, 2), gap);
    }

    private static void held() {
        LevelNetwork x = Check.network(TEXT);
        Check.due("15: held", x.heldAt(0), 1000);
        Check.due("15: not held", x.heldAt(1), NOT_FOUND);
    }

    private static void properties() {
        LevelNetwork x = Check.network(TEXT);
        int[][] due = {{0, 1, 0, 2, 1, 160, 6250}, {1, 0, 1, 1, 1, 81, 12345}, {1, 2, 1, 1, 1, 101, 9900},
            {1, 0, 0, 1, 1, 2, 500000}, {3, 2, 1, 1, 1, 4, 250000}};
        for (int line = 0; line < due.length; line++) {
            for (int what = 0; what < 7; what++) {
                Check.due("16: property " + what + " of " + line, x.lineProperty(line, what), due[line][what]);
            }
        }
        x.setActive(2, false);
        Check.due("16: not active", x.lineProperty(2, 4), 0);
        Check.due("16: another one still is", x.lineProperty(3, 4), 1);
        for (int what : new int[] {-1, 7, Integer.MAX_VALUE, Integer.MIN_VALUE}) {
            Check.due("16: any other what", x.lineProperty(0, what), BAD_VALUE);
        }
    }

    private static void readings() {
        LevelNetwork x = Check.network(TEXT);
        int[] due = {12000, 10000, 50, 30, 9000, 9500, 20, 60};
        for (int k = 0; k < due.length; k++) {
            Check.due("17: number " + k, x.reading(0, k / 4, k % 4), due[k]);
        }
        Check.due("17: of another line", x.reading(2, 0, 1), 40000);
        Check.due("17: no such setup", x.reading(0, 2, 0), NOT_FOUND);
        Check.due("17: setup below 0", x.reading(1, -1, 0), NOT_FOUND);
        Check.due("17: the setup is looked at before what", x.reading(0, 8, 9), NOT_FOUND);
        Check.due("17: what above", x.reading(0, 0, 4), BAD_VALUE);
        Check.due("17: what below", x.reading(0, 0, -1), BAD_VALUE);
    }

    private static void rises() {
        LevelNetwork x = Check.network(TEXT);
        Check.due("18: first step", x.stepOf(0, 0), 199400);
        Check.due("18: second step", x.stepOf(0, 1), -48800);
        Check.due("18: a level that looks down", x.stepOf(1, 0), -149015);
        Check.due("18: no such setup", x.stepOf(0, 2), NONE);
        Check.due("18: setup below 0", x.stepOf(0, -1), NONE);
        int[] rise = {150600, -149015, -3998515, 0, 0};
        int[] effect = {600, -15, 1485, 0, 0};
        int[] imbalance = {-20, -1, 99, 0, 0};
        for (int line = 0; line < 5; line++) {
            Check.due("19: rise of " + line, x.riseOf(line), rise[line]);
            Check.due("20: effect on " + line, x.collimationEffect(line), effect[line]);
            Check.due("21: imbalance of " + line, x.imbalance(line), imbalance[line]);
        }
        StringBuilder text = new StringBuilder("level u 200;point a;point b;line a b u");
        for (int k = 0; k < 8; k++) {
            text.append(" 40000 0 1 100");
        }
        x = Check.network(text + ";");
        Check.due("19: the greatest rise", x.riseOf(0), 8 * (4000000 + 200 * 99));
        Check.due("20: the greatest effect", x.collimationEffect(0), 8 * 200 * 99);
        Check.due("21: the least imbalance", x.imbalance(0), -8 * 99);
        Check.due("16: the weight of a long line", x.lineProperty(0, 6), 1000000 / 808);
    }

    private static void faults() {
        LevelNetwork x = Check.network(TEXT);
        Check.due("22: at the limits", x.faultsOf(0), 0);
        Check.due("22: both", x.faultsOf(2), 1001);
        x.setSetting(LevelNetwork.SIGHT, 59);
        Check.due("22: a fore distance", x.faultsOf(0), 1);
        x.setSetting(LevelNetwork.BALANCE, 19);
        Check.due("22: an imbalance below 0", x.faultsOf(0), 1001);
        x.setSetting(LevelNetwork.SIGHT, 1);
        Check.due("22: all four distances", x.faultsOf(0), 1004);
        Check.due("22: distances of 1", x.faultsOf(3), 0);
        Check.due("22: one of both", x.faultsOf(2), 1001);
        x.setSetting(LevelNetwork.BALANCE, 99);
        Check.due("22: the imbalance at its limit", x.faultsOf(2), 1);
    }

    private static void turning() {
        LevelNetwork x = Check.network(TEXT);
        Check.due("23: the turning point", x.turningHeight(0, 0), 299400);
        Check.due("23: the second point", x.turningHeight(0, 1), 250600);
        Check.due("23: from the second point's provisional height", x.turningHeight(1, 0), 250600 - 149015);
        Check.due("23: no such setup", x.turningHeight(0, 2), Check.NO_HEIGHT);
        Check.due("23: setup below 0", x.turningHeight(0, -1), Check.NO_HEIGHT);
        x.setActive(0, false);
        Check.due("23: along a line that is not active", x.turningHeight(0, 1), 250600);
        Check.due("23: b now has its height by line 1", x.turningHeight(3, 0), 100000 + 149015);
        x.setActive(2, false);
        Check.due("23: no height", x.turningHeight(4, 0), Check.NO_HEIGHT);
        x.release(0);
        Check.due("23: none at all", x.turningHeight(0, 0), Check.NO_HEIGHT);
    }

    private static void pairs() {
        LevelNetwork x = Check.network(TEXT);
        int[] pair = {1, 0, NOT_FOUND, 0, NOT_FOUND};
        int[] gap = {150600 - 149015, -149015 + 150600, NONE, 150600, NONE};
        for (int line = 0; line < 5; line++) {
            Check.due("24: pair of " + line, x.pairOf(line), pair[line]);
            Check.due("25: discrepancy of " + line, x.discrepancy(line), gap[line]);
        }
        x.setActive(0, false);
        Check.due("24: whether it is active or not", x.pairOf(3), 0);
        Check.due("24: of a line that is not active", x.pairOf(0), 1);
        Check.due("25: whether it is active or not", x.discrepancy(3), 150600);
        x = Check.network("level v 0;point a;point b;line a b v 5 4 1 1;line a b v 9 1 1 1;");
        Check.due("24: in the same direction", x.pairOf(0), 1);
        Check.due("25: in the same direction", x.discrepancy(0), 100 - 800);
        Check.due("25: and back", x.discrepancy(1), 800 - 100);
    }

    private static void indexes() {
        LevelNetwork x = Check.network(TEXT + "test u 1 1 1 1 1 1 1 1;");
        for (int bad : new int[] {-1, 5, 6, 20, Integer.MAX_VALUE, Integer.MIN_VALUE}) {
            Check.refused("13: level " + bad, () -> x.collimation(bad));
            Check.refused("14: test " + bad, () -> x.testNumber(bad, 0));
            Check.refused("14: test " + bad + ", checked first", () -> x.testNumber(bad, 7));
            Check.refused("15: point " + bad, () -> x.heldAt(bad));
            Check.refused("16: line " + bad, () -> x.lineProperty(bad, 0));
            Check.refused("16: line " + bad + ", checked first", () -> x.lineProperty(bad, 9));
            Check.refused("17: line " + bad, () -> x.reading(bad, 0, 0));
            Check.refused("17: line " + bad + ", checked first", () -> x.reading(bad, -1, -1));
            Check.refused("18: line " + bad, () -> x.stepOf(bad, 0));
            Check.refused("18: line " + bad + ", checked first", () -> x.stepOf(bad, -1));
            Check.refused("19: line " + bad, () -> x.riseOf(bad));
            Check.refused("20: line " + bad, () -> x.collimationEffect(bad));
            Check.refused("21: line " + bad, () -> x.imbalance(bad));
            Check.refused("22: line " + bad, () -> x.faultsOf(bad));
            Check.refused("23: line " + bad, () -> x.turningHeight(bad, 0));
            Check.refused("23: line " + bad + ", checked first", () -> x.turningHeight(bad, -1));
            Check.refused("24: line " + bad, () -> x.pairOf(bad));
            Check.refused("25: line " + bad, () -> x.discrepancy(bad));
        }
        Check.refused("13: level 2", () -> x.collimation(2));
        Check.refused("14: test 1", () -> x.testNumber(1, 0));
        Check.refused("15: point 4", () -> x.heldAt(4));
        LevelNetwork empty = new LevelNetwork();
        Check.refused("13: no level", () -> empty.collimation(0));
        Check.refused("14: no test", () -> empty.testNumber(0, 0));
        Check.refused("15: no point", () -> empty.heldAt(0));
        Check.refused("16: no line", () -> empty.lineProperty(0, 0));
    }
}
