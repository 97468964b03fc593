/** Promises 9 and 54 to 63: changes and how they are undone. */
public final class ChangeTest {
    private static final int NONE = LevelNetwork.NONE;
    private static final int NOT_FOUND = LevelNetwork.NOT_FOUND;
    private static final int BAD_VALUE = LevelNetwork.BAD_VALUE;
    private static final int FULL = LevelNetwork.FULL;
    private static final int[] BAD = {-1, 3, 6, 16, 20, 32, Integer.MAX_VALUE, Integer.MIN_VALUE};

    private static final String TEXT = "level u 30;level w 15 down;point a 1000;point b;point c;"
            + "line a b u 12000 10000 50 30 9000 9500 20 60;line b a w 10000 11490 40 41;line b c w 9 8 7 6;"
            + "test w 1200 1000 30 10 1150 1000 10 30;test u 1200 1000 30 10 1150 1000 31 11;";

    public static void main(String[] args) {
        hold();
        release();
        setReading();
        addSetup();
        setActive();
        setCollimation();
        applyTest();
        setSetting();
        adjusted();
        refusals();
        undoAll();
        eight();
        undoAdjust();
        loadBetween();
        Check.end();
    }

    private static void hold() {
        LevelNetwork x = Check.network(TEXT);
        Check.due("54: a second one", x.hold(2, 0), 2);
        Check.due("54: at 0", x.heldAt(2), 0);
        Check.due("54: held already", x.hold(0, 9999999), 2);
        Check.due("54: at the top", x.heldAt(0), 9999999);
        Check.due("54: the same height is a change too", x.hold(0, 9999999), 2);
        Check.due("9: three changes", x.undoCount(), 3);
        Check.due("54: too high", x.hold(1, 10000000), BAD_VALUE);
        Check.due("54: too low", x.hold(1, -1), BAD_VALUE);
        for (int bad : BAD) {
            Check.due("54: no point " + bad, x.hold(bad, 5), NOT_FOUND);
            Check.due("54: checked first", x.hold(bad, -5), NOT_FOUND);
        }
        Check.due("54: still not held", x.heldAt(1), NOT_FOUND);
        Check.due("9: no change more", x.undoCount(), 3);
        Check.due("63: undo", x.undo(), 2);
        Check.due("63: undo", x.undo(), 1);
        Check.due("63: the height before", x.heldAt(0), 1000);
        Check.due("63: undo", x.undo(), 0);
        Check.due("63: not held before", x.heldAt(2), NOT_FOUND);
    }

    private static void release() {
        LevelNetwork x = Check.network(TEXT);
        x.hold(2, 7);
        Check.due("55: one is left", x.release(0), 1);
        Check.due("55: not held", x.heldAt(0), NOT_FOUND);
        Check.due("55: not held any more", x.release(0), NOT_FOUND);
        Check.due("55: never held", x.release(1), NOT_FOUND);
        Check.due("55: none is left", x.release(2), 0);
        for (int bad : BAD) {
            Check.due("55: no point " + bad, x.release(bad), NOT_FOUND);
        }
        Check.due("9: three changes", x.undoCount(), 3);
        x.undo();
        x.undo();
        Check.due("63: held again", x.heldAt(0), 1000);
        Check.due("63: held still", x.heldAt(2), 7);
    }

    private static void setReading() {
        LevelNetwork x = Check.network(TEXT);
        int[] before = {9000, 9500, 20, 60};
        int[] least = {0, 0, 1, 1};
        int[] greatest = {40000, 40000, 100, 100};
        for (int what = 0; what < 4; what++) {
            Check.due("56: previous " + what, x.setReading(0, 1, what, greatest[what]), before[what]);
            Check.due("56: greatest " + what, x.reading(0, 1, what), greatest[what]);
            Check.due("56: previous " + what, x.setReading(0, 1, what, least[what]), greatest[what]);
            Check.due("56: least " + what, x.reading(0, 1, what), least[what]);
            Check.due("56: too great " + what, x.setReading(0, 1, what, greatest[what] + 1), BAD_VALUE);
            Check.due("56: too small " + what, x.setReading(0, 1, what, least[what] - 1), BAD_VALUE);
            Check.due("56: as it was " + what, x.reading(0, 1, what), least[what]);
        }
        Check.due("9: eight changes", x.undoCount(), 8);
        Check.due("56: the first setup stands", x.reading(0, 0, 0), 12000);
        x = Check.network(TEXT);
        Check.due("56: the same value", x.setReading(2, 0, 0, 9), 9);
        Check.due("56: is a change", x.undoCount(), 1);
        Check.due("56: no such setup", x.setReading(2, 1, 0, 9), NOT_FOUND);
        Check.due("56: no such setup, checked first", x.setReading(2, -1, 7, -9), NOT_FOUND);
        Check.due("56: what above", x.setReading(2, 0, 4, 9), BAD_VALUE);
        Check.due("56: what below", x.setReading(2, 0, -1, 9), BAD_VALUE);
        for (int bad : BAD) {
            Check.due("56: no line " + bad, x.setReading(bad, 0, 0, 5), NOT_FOUND);
            Check.due("56: no line, checked first", x.setReading(bad, 0, 9, -1), NOT_FOUND);
        }
        Check.due("9: no change more", x.undoCount(), 1);
        x.setReading(2, 0, 1, 33);
        Check.due("19: the rise follows", x.riseOf(2), 100 * (9 - 33) + 15);
        x.undo();
        Check.due("63: as before", x.reading(2, 0, 1), 8);
    }

    private static void addSetup() {
        LevelNetwork x = Check.network(TEXT);
        Check.due("57: a second setup", x.addSetup(2, 40000, 0, 100, 1), 2);
        Check.due("57: back", x.reading(2, 1, 0), 40000);
        Check.due("57: fore", x.reading(2, 1, 1), 0);
        Check.due("57: back distance", x.reading(2, 1, 2), 100);
        Check.due("57: fore distance", x.reading(2, 1, 3), 1);
        Check.due("57: a third one", x.addSetup(2, 0, 40000, 1, 100), 3);
        Check.due("16: the length follows", x.lineProperty(2, 5), 13 + 101 + 101);
        int[][] wrong = {{-1, 0, 1, 1}, {40001, 0, 1, 1}, {0, -1, 1, 1}, {0, 40001, 1, 1}, {0, 0, 0, 1}, {0, 0, 101, 1},
            {0, 0, 1, 0}, {0, 0, 1, 101}};
        for (int k = 0; k < wrong.length; k++) {
            int[] w = wrong[k];
            Check.due("57: out of range " + k, x.addSetup(2, w[0], w[1], w[2], w[3]), BAD_VALUE);
        }
        for (int bad : BAD) {
            Check.due("57: no line " + bad, x.addSetup(bad, 0, 0, 1, 1), NOT_FOUND);
            Check.due("57: checked first", x.addSetup(bad, -1, 0, 1, 1), NOT_FOUND);
        }
        Check.due("9: two changes", x.undoCount(), 2);
        for (int setups = 4; setups <= 8; setups++) {
            Check.due("57: setups", x.addSetup(2, setups, 0, 1, 1), setups);
        }
        Check.due("57: a ninth one", x.addSetup(2, 0, 0, 1, 1), FULL);
        Check.due("57: the range is checked before", x.addSetup(2, 0, 0, 0, 1), BAD_VALUE);
        Check.due("9: seven changes", x.undoCount(), 7);
        Check.due("57: the next line is as it was", x.lineProperty(1, 3), 1);
        for (int k = 0; k < 7; k++) {
            x.undo();
        }
        Check.due("63: one setup", x.lineProperty(2, 3), 1);
        Check.due("63: no second one", x.reading(2, 1, 0), NOT_FOUND);
        Check.due("63: the rise before", x.riseOf(2), 115);
    }

    private static void setActive() {
        LevelNetwork x = Check.network(TEXT);
        Check.due("58: no loop left", x.setActive(0, false), 0);
        Check.due("58: not active already", x.setActive(0, false), 0);
        Check.due("58: a loop again", x.setActive(0, true), 1);
        Check.due("58: active already", x.setActive(2, true), 1);
        Check.due("58: a line without a loop", x.setActive(2, false), 1);
        Check.due("9: all are changes", x.undoCount(), 5);
        for (int bad : BAD) {
            Check.due("58: no line " + bad, x.setActive(bad, false), NOT_FOUND);
        }
        x.undo();
        Check.due("63: active again", x.lineProperty(2, 4), 1);
        x.undo();
        x.undo();
        Check.due("63: not active", x.lineProperty(0, 4), 0);
        x.undo();
        Check.due("63: not active still", x.lineProperty(0, 4), 0);
        x.undo();
        Check.due("63: active", x.lineProperty(0, 4), 1);
        Check.due("63: with its loop", x.loopCount(), 1);
    }

    private static void setCollimation() {
        LevelNetwork x = Check.network(TEXT);
        Check.due("59: previous", x.setCollimation(1, 200), -15);
        Check.due("59: previous", x.setCollimation(1, -200), 200);
        Check.due("13: the new one", x.collimation(1), -200);
        Check.due("19: the rise follows", x.riseOf(2), 100 + 200);
        Check.due("59: too great", x.setCollimation(0, 201), NONE);
        Check.due("59: too small", x.setCollimation(0, -201), NONE);
        Check.due("59: far too great", x.setCollimation(0, Integer.MAX_VALUE), NONE);
        for (int bad : BAD) {
            Check.due("59: no level " + bad, x.setCollimation(bad, 0), NONE);
        }
        Check.due("59: level 2", x.setCollimation(2, 0), NONE);
        Check.due("59: the same one", x.setCollimation(0, 30), 30);
        Check.due("9: three changes", x.undoCount(), 3);
        x.undo();
        x.undo();
        Check.due("63: as before", x.collimation(1), 200);
    }

    private static void applyTest() {
        LevelNetwork x = Check.network(TEXT);
        Check.due("60: previous", x.applyTest(0), -15);
        Check.due("60: the result", x.collimation(1), 125);
        Check.due("60: the other level stands", x.collimation(0), 30);
        Check.due("60: again", x.applyTest(0), 125);
        Check.due("60: no result", x.applyTest(1), NONE);
        Check.due("60: no test 2", x.applyTest(2), NONE);
        for (int bad : BAD) {
            Check.due("60: no test " + bad, x.applyTest(bad), NONE);
        }
        Check.due("9: two changes", x.undoCount(), 2);
        x.undo();
        x.undo();
        Check.due("63: as before", x.collimation(1), -15);
    }

    private static void setSetting() {
        LevelNetwork x = Check.network(TEXT);
        int[] before = {40, 60, 20};
        int[] least = {0, 1, 0};
        int[] greatest = {500, 100, 800};
        for (int k = 0; k < 3; k++) {
            Check.due("62: previous " + k, x.setSetting(k, least[k]), before[k]);
            Check.due("62: least " + k, x.getSetting(k), least[k]);
            Check.due("62: previous " + k, x.setSetting(k, greatest[k]), least[k]);
            Check.due("62: greatest " + k, x.getSetting(k), greatest[k]);
            Check.due("62: too great " + k, x.setSetting(k, greatest[k] + 1), BAD_VALUE);
            Check.due("62: too small " + k, x.setSetting(k, least[k] - 1), BAD_VALUE);
        }
        Check.due("9: six changes", x.undoCount(), 6);
        for (int bad : BAD) {
            Check.due("62: no setting " + bad, x.setSetting(bad, 5), BAD_VALUE);
        }
        for (int k = 2; k >= 0; k--) {
            x.undo();
            Check.due("63: least " + k, x.getSetting(k), least[k]);
            x.undo();
            Check.due("63: initial " + k, x.getSetting(k), before[k]);
        }
        Check.due("62: in a new object", new LevelNetwork().setSetting(1, 5), 60);
    }

    /** Every change but adjust removes the adjusted heights, and undo brings them back. */
    private static void adjusted() {
        LevelNetwork x = Check.network(TEXT);
        x.adjust(2);
        long height = x.heightOf(1);
        for (int kind = 0; kind < 8; kind++) {
            change(x, kind);
            Check.due("61: change " + kind + " removes the adjusted heights", x.isAdjusted(), false);
            Check.due("47: no height after change " + kind, x.heightOf(1), Check.NO_HEIGHT);
            Check.due("63: undo of change " + kind, x.undo(), 1);
            Check.due("63: adjusted again after change " + kind, x.isAdjusted(), true);
            Check.due("63: the height of before change " + kind, x.heightOf(1), height);
        }
    }

    private static void change(LevelNetwork x, int kind) {
        switch (kind) {
            case 0 -> x.hold(0, 1000);
            case 1 -> x.release(0);
            case 2 -> x.setReading(0, 0, 0, 12000);
            case 3 -> x.addSetup(0, 1, 1, 1, 1);
            case 4 -> x.setActive(2, true);
            case 5 -> x.setCollimation(0, 30);
            case 6 -> x.applyTest(0);
            default -> x.setSetting(1, 60);
        }
    }

    private static void refusals() {
        LevelNetwork x = Check.network(TEXT);
        x.adjust(2);
        x.hold(-1, 5);
        x.hold(0, -5);
        x.release(1);
        x.setReading(0, 0, 0, -1);
        x.setReading(0, 5, 0, 1);
        x.addSetup(0, 1, 1, 0, 1);
        x.addSetup(9, 1, 1, 1, 1);
        x.setActive(9, true);
        x.setCollimation(0, 999);
        x.applyTest(1);
        x.adjust(0);
        x.setSetting(0, -1);
        x.load(1);
        Check.due("46: what is refused changes nothing", x.isAdjusted(), true);
        Check.due("9: one change", x.undoCount(), 1);
    }

    private static void undoAll() {
        LevelNetwork x = Check.network(TEXT);
        long rise = x.riseOf(0);
        for (int kind = 1; kind < 8; kind++) {
            change(x, kind);
            Check.due("9: changes", x.undoCount(), kind);
        }
        for (int left = 6; left >= 0; left--) {
            Check.due("63: left", x.undo(), left);
        }
        Check.due("63: none to undo", x.undo(), NOT_FOUND);
        Check.due("63: none to undo still", x.undo(), NOT_FOUND);
        Check.due("63: the rise", x.riseOf(0), rise);
        Check.due("63: the collimation", x.collimation(1), -15);
        Check.due("63: held", x.heldAt(0), 1000);
    }

    private static void eight() {
        LevelNetwork x = Check.network(TEXT);
        for (int k = 1; k <= 20; k++) {
            x.setSetting(LevelNetwork.TOLERANCE, 100 + k);
            Check.due("9: at most eight", x.undoCount(), Math.min(8, k));
        }
        for (int k = 7; k >= 3; k--) {
            Check.due("63: left", x.undo(), k);
        }
        Check.due("63: five changes are undone", x.getSetting(LevelNetwork.TOLERANCE), 115);
        x.setSetting(LevelNetwork.TOLERANCE, 7);
        Check.due("9: a new one", x.undoCount(), 4);
        Check.due("63: the new one first", x.undo(), 3);
        Check.due("63: back", x.getSetting(LevelNetwork.TOLERANCE), 115);
        x.undo();
        x.undo();
        Check.due("63: the last one", x.undo(), 0);
        Check.due("63: older ones are not kept", x.getSetting(LevelNetwork.TOLERANCE), 112);
        Check.due("63: none", x.undo(), NOT_FOUND);
    }

    private static void undoAdjust() {
        LevelNetwork x = Check.network("level v 0;point a 1000;point b;point c 2000;line a b v 1500 1000 10 10;"
                + "line c b v 1000 1480 20 20;");
        x.adjust(1);
        long first = x.heightOf(1);
        x.setReading(0, 0, 0, 1600);
        x.adjust(1);
        long second = x.heightOf(1);
        Check.due("61: heights differ", first != second, true);
        x.adjust(5);
        x.undo();
        Check.due("63: the heights of the adjust before", x.heightOf(1), second);
        x.undo();
        Check.due("63: none after the reading was set", x.isAdjusted(), false);
        x.undo();
        Check.due("63: the heights of the first adjust", x.heightOf(1), first);
        x.undo();
        Check.due("63: none at first", x.isAdjusted(), false);
        Check.due("63: no height", x.heightOf(1), Check.NO_HEIGHT);
    }

    private static void loadBetween() {
        LevelNetwork x = Check.network(TEXT);
        x.hold(1, 5);
        Check.feed(x, "point z;");
        Check.due("63: undo leaves the buffer alone", x.undo(), 0);
        x.hold(1, 6);
        Check.due("3: what was fed", x.load(8), 1);
        Check.due("9: nothing can be undone after load", x.undoCount(), 0);
        Check.due("63: undo after load", x.undo(), NOT_FOUND);
        for (int k = 0; k < 9; k++) {
            x.hold(0, k);
        }
        Check.due("9: eight again", x.undoCount(), 8);
        for (int k = 7; k >= 0; k--) {
            Check.due("63: left", x.undo(), k);
        }
        Check.due("63: the first one is not kept", x.heldAt(0), 0);
    }
}
