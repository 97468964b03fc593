import java.util.function.Consumer;

/** CHANGES and promises 54 to 63, sentence by sentence. */
final class ChangeEdges {
    /** The kinds of changes. */
    static final int HOLD = 0, RELEASE = 1, SET_READING = 2, ADD_SETUP = 3, SET_ACTIVE = 4, SET_COLLIMATION = 5,
            APPLY_TEST = 6, ADJUST = 7, SET_SETTING = 8, KINDS = 9;

    private static final int MIN = Edge.MIN;
    private static final int MAX = Edge.MAX;
    private static final int[] LEAST = {0, 0, 1, 1};
    private static final int[] GREATEST = {40000, 40000, 100, 100};

    // Point a is held, line 1 is no tree line, and test 0 has the result 125, test 1 none.
    private static final String TEXT = "level u 30;level w 15 down;point a 1000;point b;point c;"
            + "line a b u 12000 10000 50 30 9000 9500 20 60;line b a w 10000 11490 40 41;line b c w 9 8 7 6;"
            + "test w 1200 1000 30 10 1150 1000 10 30;test u 1200 1000 30 10 1150 1000 31 11;";

    private ChangeEdges() {
    }

    static void all() {
        changes();
        hold();
        release();
        setReading();
        addSetup();
        setActive();
        setCollimation();
        applyTest();
        adjust();
        setSetting();
        undo();
    }

    static LevelNetwork made() {
        return Check.network(TEXT);
    }

    /** Makes a change that can be seen in the answers of made(). */
    static int change(LevelNetwork x, int kind) {
        switch (kind) {
            case HOLD:
                return x.hold(2, 77);
            case RELEASE:
                return x.release(0);
            case SET_READING:
                return x.setReading(0, 1, 2, 99);
            case ADD_SETUP:
                return x.addSetup(2, 3, 4, 5, 6);
            case SET_ACTIVE:
                return x.setActive(0, false);
            case SET_COLLIMATION:
                return x.setCollimation(0, -200);
            case APPLY_TEST:
                return x.applyTest(0);
            case ADJUST:
                return x.adjust(1);
            default:
                return x.setSetting(LevelNetwork.TOLERANCE, 0);
        }
    }

    /** What made() answers after these calls. */
    private static String after(Consumer<LevelNetwork> calls) {
        return Snapshot.of(() -> {
            LevelNetwork x = made();
            calls.accept(x);
            return x;
        });
    }

    // ---- CHANGES

    private static void changes() {
        Edge.under("CHANGES");
        Edge.says("The methods hold, release, setReading, addSetup, setActive, setCollimation, applyTest, adjust and setSetting"
                + " make changes.", () -> {
            for (int kind = 0; kind < KINDS; kind++) {
                LevelNetwork x = made();
                change(x, kind);
                Check.due("kind " + kind, x.undoCount(), 1);
            }
            LevelNetwork x = made();
            x.hold(0, 1);
            Check.feed(x, " ");
            x.load(-1);
            x.getSetting(0);
            x.provisional(0);
            x.badWithout(0);
            Check.due("other methods make none", x.undoCount(), 1);
            x.undo();
            Check.due("undo makes none", x.undoCount(), 0);
        });
        Edge.says("A change can be undone; everything is then as before it, adjusted heights included.", ChangeEdges::undone);
        Edge.says("At most the 8 latest changes are kept.", ChangeEdges::eightLatest);
        Edge.says("A call that returns an error code or throws an exception changes nothing, except where its description says"
                + " otherwise.", ChangeEdges::refused);
    }

    private static void undone() {
        String plain = after(x -> { });
        String adjusted = after(x -> x.adjust(2));
        String adjustedFirst = after(x -> x.adjust(1));
        Check.due("the adjusted heights are seen", plain.equals(adjusted) || adjusted.equals(adjustedFirst), false);
        for (int k = 0; k < KINDS; k++) {
            int kind = k;
            boolean seen = !after(x -> change(x, kind)).equals(plain);
            Check.due("kind " + kind + " is seen", seen, true);
            Snapshot.same("kind " + kind, after(x -> {
                change(x, kind);
                x.undo();
            }), plain);
            Snapshot.same("kind " + kind + " of adjusted heights", after(x -> {
                x.adjust(2);
                change(x, kind);
                x.undo();
            }), adjusted);
            Snapshot.same("kind " + kind + " before adjust", after(x -> {
                change(x, kind);
                x.adjust(2);
                x.undo();
                x.undo();
            }), plain);
            Snapshot.same("kind " + kind + " before another hold", after(x -> {
                x.adjust(2);
                change(x, kind);
                x.hold(2, 5);
                x.undo();
                x.undo();
            }), adjusted);
        }
        Snapshot.same("all kinds", after(x -> {
            x.adjust(2);
            for (int kind = 1; kind < KINDS; kind++) {
                change(x, kind);
            }
            for (int kind = 1; kind < KINDS; kind++) {
                x.undo();
            }
        }), adjusted);
    }

    private static void eightLatest() {
        for (int changes = 0; changes <= 34; changes++) {
            LevelNetwork x = made();
            for (int k = 1; k <= changes; k++) {
                x.hold(0, k);
            }
            for (int k = changes; k > 0 && k > changes - 8; k--) {
                Check.due("held after " + changes + " changes", x.heldAt(0), k);
                Check.due("one of eight is undone", x.undo(), Math.min(changes, 8) - (changes - k) - 1);
            }
            Check.due("no ninth one is kept after " + changes, x.undo(), Edge.NOT_FOUND);
            Check.due("what was before them", x.heldAt(0), changes > 8 ? changes - 8 : 1000);
        }
        // Some are undone between: the place of the oldest one goes around.
        LevelNetwork x = made();
        for (int round = 0; round < 10; round++) {
            for (int k = 1; k <= 5; k++) {
                x.setReading(0, 0, 0, 10 * round + k);
            }
            x.undo();
            x.undo();
        }
        // The last two of eight are undone each time, so that six are kept: 1, 2, 3 of the rounds 9 and 8.
        int[] due = {93, 92, 91, 83, 82, 81};
        for (int k = 0; k < 6; k++) {
            Check.due("reading " + k, x.reading(0, 0, 0), due[k]);
            Check.due("left", x.undo(), 5 - k);
        }
        Check.due("no seventh one", x.undo(), Edge.NOT_FOUND);
        Check.due("the reading before all", x.reading(0, 0, 0), 73);
    }

    /** Each call with parameters that are refused, one after the other. */
    private static void refusedCalls(LevelNetwork x) {
        for (int bad : new int[] {-1, 3, 16, 20, 32, MAX, MIN}) {
            x.hold(bad, 5);
            x.release(bad);
            x.setReading(bad, 0, 0, 5);
            x.setReading(0, bad, 0, 5);
            x.setReading(0, 0, bad == 3 ? 4 : bad, 5);
            x.addSetup(bad, 5, 5, 5, 5);
            x.setActive(bad, false);
            x.setCollimation(bad, 5);
            x.applyTest(bad);
            x.adjust(bad < 1 ? bad : bad + 200);
            x.setSetting(bad, 5);
        }
        x.hold(0, -1);
        x.hold(1, 10000000);
        x.release(1);
        x.setReading(0, 0, 0, 40001);
        x.setReading(0, 0, 1, -1);
        x.setReading(0, 0, 2, 0);
        x.setReading(0, 0, 3, 101);
        x.addSetup(0, -1, 5, 5, 5);
        x.addSetup(0, 5, 40001, 5, 5);
        x.addSetup(0, 5, 5, 0, 5);
        x.addSetup(0, 5, 5, 5, 101);
        x.setCollimation(0, 201);
        x.setCollimation(1, -201);
        x.applyTest(1);
        x.adjust(0);
        x.adjust(201);
        x.setSetting(0, 501);
        x.setSetting(1, 0);
        x.setSetting(2, -1);
        x.load(-1);
        x.load(MAX);
    }

    private static void refused() {
        String before = after(x -> {
            x.setActive(2, false);
            x.adjust(2);
        });
        Snapshot.same("refused calls", after(x -> {
            x.setActive(2, false);
            x.adjust(2);
            refusedCalls(x);
        }), before);
        Snapshot.same("calls that throw", after(x -> {
            x.setActive(2, false);
            x.adjust(2);
            throwingCalls(x);
        }), before);
        LevelNetwork x = made();
        Check.feed(x, "?");
        x.load(1);
        x.setActive(2, false);
        x.adjust(2);
        Check.feed(x, "point z;");
        refusedCalls(x);
        throwingCalls(x);
        Check.due("no change more", x.undoCount(), 2);
        Check.due("the error stands", x.errorPosition(), 0);
        x.undo();
        Check.due("the latest change is adjust", x.isAdjusted(), false);
        x.undo();
        Check.due("and the one before is setActive", x.lineProperty(2, 4), 1);
        Check.due("nothing to undo", x.undo(), Edge.NOT_FOUND);
        Check.due("that neither changes anything", x.lineProperty(2, 4), 1);
        Check.due("the buffer stands", x.load(8), 1);
        x = Check.network("level u 0;point a;point b;line a b u" + " 1 0 1 1".repeat(8) + ";");
        x.addSetup(0, 9, 9, 9, 9);
        Check.due("FULL makes no change", x.undoCount(), 0);
        Check.due("the last setup stands", x.reading(0, 7, 0), 1);
        Check.due("no rise of a ninth one", x.riseOf(0), 800);
    }

    private static void throwingCalls(LevelNetwork x) {
        for (int bad : new int[] {-1, 20, 33, MAX, MIN}) {
            Check.refused("collimation", () -> x.collimation(bad));
            Check.refused("testNumber", () -> x.testNumber(bad, 0));
            Check.refused("heldAt", () -> x.heldAt(bad));
            Check.refused("loopLength", () -> x.loopLength(bad));
            Check.refused("badWithout", () -> x.badWithout(bad));
            Check.refused("residual", () -> x.residual(bad));
            Check.refused("heightOf", () -> x.heightOf(bad));
        }
    }

    // ---- promise 54

    private static void hold() {
        Edge.under("Promise 54: hold");
        Edge.says("Holds a point at a height, also if it is held already.", () -> {
            LevelNetwork x = made();
            x.hold(1, 7);
            Check.due("not held before", x.heldAt(1), 7);
            x.hold(1, 8);
            Check.due("held already", x.heldAt(1), 8);
            x.hold(1, 8);
            Check.due("at the same height", x.heldAt(1), 8);
            Check.due("three changes", x.undoCount(), 3);
            x.undo();
            x.undo();
            Check.due("the height before", x.heldAt(1), 7);
            x.undo();
            Check.due("not held", x.heldAt(1), Edge.NOT_FOUND);
        });
        Edge.says("point: index of a point", () -> {
            for (int count : new int[] {1, 16}) {
                LevelNetwork x = Edge.sized(1, count, 0, 0);
                for (int point = 0; point < count; point++) {
                    x.hold(point, point);
                    Check.due("point " + point, x.heldAt(point), point);
                }
            }
        });
        Edge.says("height: 0 to 9999999 tenths of a millimetre", () -> {
            LevelNetwork x = made();
            x.hold(0, 0);
            Check.due("least", x.heldAt(0), 0);
            Check.due("in thousandths", x.provisional(0), 0);
            x.hold(0, 9999999);
            Check.due("greatest", x.heldAt(0), 9999999);
            Check.due("in thousandths", x.provisional(0), 999999900);
        });
        Edge.says("Returns the number of points that are held then", () -> {
            LevelNetwork x = Edge.sized(1, 16, 0, 0);
            for (int point = 0; point < 16; point++) {
                Check.due("one more", x.hold(15 - point, 0), point + 1);
                Check.due("not one more", x.hold(15 - point, 1), point + 1);
            }
        });
        Edge.says("NOT_FOUND if point is not a valid index", () -> {
            for (int count : new int[] {0, 3, 16}) {
                LevelNetwork x = Edge.sized(1, count, 0, 0);
                for (int point : Edge.outside(count)) {
                    Check.due("point " + point + " of " + count, x.hold(point, 5), Edge.NOT_FOUND);
                }
            }
        });
        Edge.says("BAD_VALUE if height is out of range", () -> {
            LevelNetwork x = made();
            for (int height : new int[] {-1, -2, -1000, MIN, MIN + 1, 10000000, 10000001, 1 << 30, MAX}) {
                Check.due("height " + height, x.hold(0, height), Edge.BAD_VALUE);
            }
            Check.due("held as before", x.heldAt(0), 1000);
        });
        Edge.says("checked in this order.", () -> {
            LevelNetwork x = made();
            for (int height : new int[] {-1, 10000000, MIN, MAX}) {
                Check.due("point 3, height " + height, x.hold(3, height), Edge.NOT_FOUND);
                Check.due("point -1, height " + height, x.hold(-1, height), Edge.NOT_FOUND);
            }
        });
    }

    // ---- promise 55

    private static void release() {
        Edge.under("Promise 55: release");
        Edge.says("Releases a point that is held.", () -> {
            LevelNetwork x = made();
            x.release(0);
            Check.due("not held", x.heldAt(0), Edge.NOT_FOUND);
            Check.due("no height", x.provisional(0), Edge.NO_HEIGHT);
            x.hold(0, 0);
            x.release(0);
            Check.due("held at 0", x.heldAt(0), Edge.NOT_FOUND);
        });
        Edge.says("point: index of a point", () -> {
            for (int count : new int[] {1, 16}) {
                LevelNetwork x = Edge.sized(1, count, 0, 0);
                for (int point = 0; point < count; point++) {
                    x.hold(point, point);
                    Check.due("point " + point, x.release(point), 0);
                }
            }
        });
        Edge.says("Returns the number of points that are held then", () -> {
            LevelNetwork x = Edge.sized(1, 16, 0, 0);
            for (int point = 0; point < 16; point++) {
                x.hold(point, 0);
            }
            for (int point = 0; point < 16; point++) {
                Check.due("one less", x.release(point), 15 - point);
            }
        });
        Edge.says("NOT_FOUND if point is not a valid index", () -> {
            for (int count : new int[] {0, 3, 16}) {
                LevelNetwork x = Edge.sized(1, count, 0, 0);
                for (int point : Edge.outside(count)) {
                    Check.due("point " + point + " of " + count, x.release(point), Edge.NOT_FOUND);
                }
            }
        });
        Edge.says("or is not held.", () -> {
            LevelNetwork x = made();
            Check.due("never held", x.release(1), Edge.NOT_FOUND);
            x.release(0);
            Check.due("released already", x.release(0), Edge.NOT_FOUND);
            Check.due("one change", x.undoCount(), 1);
        });
    }

    // ---- promise 56

    private static void setReading() {
        Edge.under("Promise 56: setReading");
        Edge.says("Sets a number of a setup.", () -> {
            LevelNetwork x = made();
            for (int setup = 0; setup < 2; setup++) {
                for (int what = 0; what < 4; what++) {
                    x.setReading(0, setup, what, 10 * setup + what + 1);
                }
            }
            for (int k = 0; k < 8; k++) {
                Check.due("number " + k, x.reading(0, k / 4, k % 4), 10 * (k / 4) + k % 4 + 1);
            }
            Check.due("no other line", x.reading(1, 0, 0), 10000);
            Check.due("the rise", x.riseOf(0), -200 - 30 * -2);
        });
        Edge.says("Setting the value that it already has is also a change", () -> {
            LevelNetwork x = made();
            x.adjust(1);
            Check.due("the value", x.setReading(0, 1, 3, 60), 60);
            Check.due("a change", x.undoCount(), 2);
            Check.due("that removes the adjusted heights", x.isAdjusted(), false);
            x.undo();
            Check.due("and can be undone", x.isAdjusted(), true);
        });
        Edge.says("likewise below.", () -> {
            LevelNetwork x = made();
            x.adjust(1);
            x.setActive(0, true);
            Check.due("setActive", x.undoCount(), 2);
            Check.due("setActive removes the adjusted heights", x.isAdjusted(), false);
            x.setCollimation(1, -15);
            Check.due("setCollimation", x.undoCount(), 3);
            x.applyTest(0);
            x.applyTest(0);
            Check.due("applyTest", x.undoCount(), 5);
            x.adjust(1);
            x.adjust(1);
            Check.due("adjust", x.undoCount(), 7);
            x.setSetting(LevelNetwork.SIGHT, 60);
            Check.due("setSetting", x.undoCount(), 8);
            Check.due("setSetting removes the adjusted heights", x.isAdjusted(), false);
            x.undo();
            Check.due("the adjusted heights before", x.isAdjusted(), true);
            x.undo();
            Check.due("those of the adjust before", x.isAdjusted(), true);
            x.undo();
            Check.due("none before", x.isAdjusted(), false);
            x.undo();
            Check.due("the result already", x.collimation(1), 125);
            x.undo();
            Check.due("the collimation before", x.collimation(1), -15);
        });
        Edge.says("line: index of a line", () -> Edge.answersLines((x, line) -> isSet(x, line)));
        Edge.says("setup: 0 for the first setup of the line", () -> {
            LevelNetwork x = Check.network("level u 0;point a;point b;line a b u" + " 1 0 1 1".repeat(8) + ";");
            for (int setup = 0; setup < 8; setup++) {
                x.setReading(0, setup, 0, 50 + setup);
            }
            for (int setup = 0; setup < 8; setup++) {
                Check.due("setup " + setup, x.reading(0, setup, 0), 50 + setup);
            }
        });
        String[] whats = {"what: 0: back reading", "1: fore reading", "2: back distance", "3: fore distance"};
        for (int k = 0; k < 4; k++) {
            int what = k;
            Edge.says(whats[what], () -> {
                LevelNetwork x = made();
                int[] before = {9000, 9500, 20, 60};
                Check.due("the value before", x.setReading(0, 1, what, 5), before[what]);
                for (int other = 0; other < 4; other++) {
                    Check.due("number " + other, x.reading(0, 1, other), other == what ? 5 : before[other]);
                }
            });
        }
        Edge.says("value: the new value, in the range of the number", () -> {
            LevelNetwork x = made();
            for (int what = 0; what < 4; what++) {
                x.setReading(2, 0, what, LEAST[what]);
                Check.due("least " + what, x.reading(2, 0, what), LEAST[what]);
                x.setReading(2, 0, what, GREATEST[what]);
                Check.due("greatest " + what, x.reading(2, 0, what), GREATEST[what]);
            }
        });
        Edge.says("Returns the previous value", () -> {
            LevelNetwork x = made();
            Check.due("that of the text", x.setReading(2, 0, 0, 0), 9);
            Check.due("0", x.setReading(2, 0, 0, 40000), 0);
            Check.due("40000", x.setReading(2, 0, 0, 1), 40000);
            x.undo();
            Check.due("undone", x.setReading(2, 0, 0, 2), 40000);
        });
        Edge.says("NOT_FOUND if line is not a valid index", () -> {
            for (int count : new int[] {0, 1, 20}) {
                LevelNetwork x = Edge.sized(1, 2, count, 0);
                for (int line : Edge.outside(count)) {
                    Check.due("line " + line + " of " + count, x.setReading(line, 0, 0, 5), Edge.NOT_FOUND);
                }
            }
        });
        Edge.says("or has no such setup", () -> {
            for (int setups : new int[] {1, 2, 8}) {
                LevelNetwork x = Check.network("level u 0;point a;point b;line a b u" + " 1 0 1 1".repeat(setups)
                        + ";line a b u" + " 1 0 1 1".repeat(8) + ";");
                for (int setup : Edge.outside(setups)) {
                    Check.due("setup " + setup + " of " + setups, x.setReading(0, setup, 0, 5), Edge.NOT_FOUND);
                }
                Check.due("the next line stands", x.reading(1, 0, 0), 1);
            }
        });
        Edge.says("BAD_VALUE for any other what", () -> {
            for (int what : Edge.outside(4)) {
                Check.due("what " + what, made().setReading(0, 0, what, 5), Edge.BAD_VALUE);
            }
        });
        Edge.says("or if value is out of range", () -> {
            LevelNetwork x = made();
            for (int what = 0; what < 4; what++) {
                int before = x.reading(0, 0, what);
                for (int value : new int[] {LEAST[what] - 1, GREATEST[what] + 1, MIN, MAX, -1, -40000, 65536 + 5, 1 << 30}) {
                    Check.due("value " + value + " of number " + what, x.setReading(0, 0, what, value), Edge.BAD_VALUE);
                }
                Check.due("as before", x.reading(0, 0, what), before);
            }
            Check.due("a reading is no distance", x.setReading(0, 0, 2, 1000), Edge.BAD_VALUE);
        });
        Edge.says("checked in this order.", () -> {
            LevelNetwork x = made();
            Check.due("no line, no what", x.setReading(3, 0, 4, 5), Edge.NOT_FOUND);
            Check.due("no line, no value", x.setReading(-1, 0, 0, -1), Edge.NOT_FOUND);
            Check.due("no setup, no what", x.setReading(0, 2, -1, 5), Edge.NOT_FOUND);
            Check.due("no setup, no value", x.setReading(0, -1, 2, 0), Edge.NOT_FOUND);
            Check.due("neither line nor setup nor what nor value", x.setReading(MIN, MAX, MIN, MAX), Edge.NOT_FOUND);
            Check.due("neither what nor value", x.setReading(0, 0, 4, -1), Edge.BAD_VALUE);
        });
    }

    /** Sets a reading; throws if that was refused or another line was meant. */
    private static long isSet(LevelNetwork x, int line) {
        int previous = x.setReading(line, 0, 0, 700 + line);
        if (previous != 0 || x.reading(line, 0, 0) != 700 + line) {
            throw new IllegalStateException("line " + line + " answered " + previous);
        }
        return previous;
    }

    // ---- promise 57

    private static void addSetup() {
        Edge.under("Promise 57: addSetup");
        Edge.says("Adds a setup at the end of a line.", () -> {
            LevelNetwork x = made();
            x.addSetup(2, 51, 52, 53, 54);
            x.addSetup(2, 61, 62, 63, 64);
            int[] due = {9, 8, 7, 6, 51, 52, 53, 54, 61, 62, 63, 64};
            for (int k = 0; k < due.length; k++) {
                Check.due("number " + k, x.reading(2, k / 4, k % 4), due[k]);
            }
            Check.due("no fourth one", x.reading(2, 3, 0), Edge.NOT_FOUND);
            Check.due("no other line", x.lineProperty(1, 3), 1);
            x.undo();
            x.addSetup(2, 71, 72, 73, 74);
            Check.due("in place of one that was undone", x.reading(2, 2, 3), 74);
        });
        Edge.says("line: index of a line", () -> Edge.answersLines((x, line) -> {
            if (x.addSetup(line, 1, 1, 1, 1) != 2 || x.lineProperty(line, 3) != 2) {
                throw new IllegalStateException("line " + line);
            }
            return 2;
        }));
        Edge.says("back: back reading, 0 to 40000", () -> added(0));
        Edge.says("fore: fore reading, 0 to 40000", () -> added(1));
        Edge.says("backDistance: 1 to 100", () -> added(2));
        Edge.says("foreDistance: 1 to 100", () -> added(3));
        Edge.says("Returns the number of setups of the line then", () -> {
            LevelNetwork x = made();
            for (int setups = 2; setups <= 8; setups++) {
                Check.due("setups", x.addSetup(1, 1, 1, 1, 1), setups);
            }
            x.undo();
            Check.due("eight again", x.addSetup(1, 1, 1, 1, 1), 8);
            Check.due("of another line", x.addSetup(0, 1, 1, 1, 1), 3);
        });
        Edge.says("NOT_FOUND if line is not a valid index", () -> {
            for (int count : new int[] {0, 1, 20}) {
                LevelNetwork x = Edge.sized(1, 2, count, 0);
                for (int line : Edge.outside(count)) {
                    Check.due("line " + line + " of " + count, x.addSetup(line, 1, 1, 1, 1), Edge.NOT_FOUND);
                }
            }
        });
        Edge.says("BAD_VALUE if another parameter is out of range", () -> {
            for (int what = 0; what < 4; what++) {
                for (int value : new int[] {LEAST[what] - 1, GREATEST[what] + 1, MIN, MAX, -1, -100, 65536 + 5}) {
                    LevelNetwork x = made();
                    Check.due("value " + value + " of number " + what, add(x, 2, what, value), Edge.BAD_VALUE);
                    Check.due("no setup more", x.lineProperty(2, 3), 1);
                }
            }
        });
        Edge.says("FULL if the line has 8 setups", () -> {
            LevelNetwork x = Check.network("level u 0;point a;point b;line a b u" + " 1 0 1 1".repeat(7) + ";line a b u"
                    + " 1 0 1 1".repeat(8) + ";");
            Check.due("an eighth", x.addSetup(0, 1, 1, 1, 1), 8);
            Check.due("a ninth", x.addSetup(0, 1, 1, 1, 1), Edge.FULL);
            Check.due("of a line that is full by the text", x.addSetup(1, 1, 1, 1, 1), Edge.FULL);
            Check.due("still eight", x.lineProperty(0, 3), 8);
            x.undo();
            Check.due("not full any more", x.addSetup(0, 1, 1, 1, 1), 8);
        });
        Edge.says("checked in this order.", () -> {
            LevelNetwork x = Check.network("level u 0;point a;point b;line a b u" + " 1 0 1 1".repeat(8) + ";");
            for (int what = 0; what < 4; what++) {
                Check.due("neither line nor number " + what, add(x, 1, what, -1), Edge.NOT_FOUND);
                Check.due("full, and no number " + what, add(x, 0, what, -1), Edge.BAD_VALUE);
                Check.due("full, and no number " + what, add(x, 0, what, GREATEST[what] + 1), Edge.BAD_VALUE);
            }
            Check.due("full", x.addSetup(0, 1, 1, 1, 1), Edge.FULL);
        });
    }

    /** Adds a setup of ones, but for one number. */
    private static int add(LevelNetwork x, int line, int what, int value) {
        int[] four = {1, 1, 1, 1};
        four[what] = value;
        return x.addSetup(line, four[0], four[1], four[2], four[3]);
    }

    private static void added(int what) {
        LevelNetwork x = made();
        Check.due("least", add(x, 2, what, LEAST[what]), 2);
        Check.due("greatest", add(x, 2, what, GREATEST[what]), 3);
        Check.due("too small", add(x, 2, what, LEAST[what] - 1), Edge.BAD_VALUE);
        Check.due("too great", add(x, 2, what, GREATEST[what] + 1), Edge.BAD_VALUE);
        for (int other = 0; other < 4; other++) {
            Check.due("number " + other + " of the first", x.reading(2, 1, other), other == what ? LEAST[what] : 1);
            Check.due("number " + other + " of the second", x.reading(2, 2, other), other == what ? GREATEST[what] : 1);
        }
    }

    // ---- promise 58

    private static void setActive() {
        Edge.under("Promise 58: setActive");
        Edge.says("Sets whether a line is active.", () -> {
            LevelNetwork x = made();
            x.setActive(1, false);
            Check.due("not active", x.linesAt(0), 0b001);
            x.setActive(1, false);
            Check.due("not active still", x.linesAt(0), 0b001);
            x.setActive(1, true);
            Check.due("active", x.linesAt(0), 0b011);
            x.setActive(1, true);
            Check.due("active still", x.linesAt(0), 0b011);
            Check.due("four changes", x.undoCount(), 4);
            x.undo();
            x.undo();
            Check.due("not active before", x.linesAt(0), 0b001);
        });
        Edge.says("line: index of a line", () -> {
            LevelNetwork x = Edge.sized(1, 2, 20, 0);
            for (int line = 0; line < 20; line++) {
                x.setActive(line, false);
                Check.due("all but line " + line, x.linesAt(0), 0xfffff & ~(1 << line));
                x.setActive(line, true);
                Check.due("all", x.linesAt(0), 0xfffff);
            }
        });
        Edge.says("active: true if it is active", () -> {
            LevelNetwork x = made();
            x.setActive(0, false);
            Check.due("false", x.lineProperty(0, 4), 0);
            x.setActive(0, true);
            Check.due("true", x.lineProperty(0, 4), 1);
        });
        Edge.says("Returns the number of loops then", () -> {
            LevelNetwork x = Edge.sized(1, 2, 20, 0);
            for (int line = 0; line < 20; line++) {
                Check.due("loops without line " + line, x.setActive(line, false), Math.max(18 - line, 0));
            }
            for (int line = 0; line < 20; line++) {
                Check.due("loops with line " + line, x.setActive(line, true), line);
            }
            Check.due("a line without a loop", made().setActive(2, false), 1);
        });
        Edge.says("NOT_FOUND if line is not a valid index.", () -> {
            for (int count : new int[] {0, 1, 20}) {
                LevelNetwork x = Edge.sized(1, 2, count, 0);
                for (int line : Edge.outside(count)) {
                    Check.due("line " + line + " of " + count, x.setActive(line, false), Edge.NOT_FOUND);
                    Check.due("line " + line + " of " + count, x.setActive(line, true), Edge.NOT_FOUND);
                }
                Check.due("all are active still", x.linesAt(0), (1 << count) - 1);
            }
        });
    }

    // ---- promise 59

    private static void setCollimation() {
        Edge.under("Promise 59: setCollimation");
        Edge.says("Sets the collimation of a level.", () -> {
            LevelNetwork x = made();
            x.setCollimation(1, 7);
            Check.due("the new one", x.collimation(1), 7);
            Check.due("the other level", x.collimation(0), 30);
            Check.due("the rise", x.riseOf(2), 100 - 7);
            x.undo();
            Check.due("the one before", x.collimation(1), -15);
        });
        Edge.says("level: index of a level", () -> Edge.answersLevels((x, level) -> {
            if (x.setCollimation(level, 50 + level) != 0 || x.collimation(level) != 50 + level) {
                throw new IllegalStateException("level " + level);
            }
            return 0;
        }));
        Edge.says("collimation: -200 to 200", () -> {
            LevelNetwork x = made();
            x.setCollimation(0, -200);
            Check.due("least", x.collimation(0), -200);
            x.setCollimation(0, 200);
            Check.due("greatest", x.collimation(0), 200);
            x.setCollimation(0, 0);
            Check.due("0", x.collimation(0), 0);
        });
        Edge.says("Returns the previous collimation", () -> {
            LevelNetwork x = made();
            Check.due("of u", x.setCollimation(0, 200), 30);
            Check.due("of w", x.setCollimation(1, 200), -15);
            Check.due("greatest", x.setCollimation(0, -200), 200);
            Check.due("least", x.setCollimation(0, -200), -200);
        });
        Edge.says("NONE if level is not a valid index", () -> {
            for (int count : new int[] {0, 1, 3}) {
                LevelNetwork x = Edge.sized(count, 0, 0, 0);
                for (int level : Edge.outside(count)) {
                    Check.due("level " + level + " of " + count, x.setCollimation(level, 5), Edge.NONE);
                    Check.due("level " + level + " and no collimation", x.setCollimation(level, 201), Edge.NONE);
                }
            }
        });
        Edge.says("or collimation is out of range.", () -> {
            LevelNetwork x = made();
            for (int collimation : new int[] {-201, 201, -202, 256, -256, 65536, MIN, MIN + 1, MAX, MIN + 100, -40000}) {
                Check.due("collimation " + collimation, x.setCollimation(1, collimation), Edge.NONE);
            }
            Check.due("as before", x.collimation(1), -15);
        });
    }

    // ---- promise 60

    private static void applyTest() {
        Edge.under("Promise 60: applyTest");
        Edge.says("Sets the collimation of the level of a test to the result of the test.", () -> {
            LevelNetwork x = made();
            x.applyTest(0);
            Check.due("of w", x.collimation(1), 125);
            Check.due("u stands", x.collimation(0), 30);
            x.undo();
            Check.due("undone", x.collimation(1), -15);
            x = Check.network("level u 7;test u 2 0 2 1 0 0 1 1;test u 0 2 2 1 0 0 1 1;test u 0 0 2 1 0 0 1 1;");
            x.applyTest(0);
            Check.due("greatest", x.collimation(0), 200);
            x.applyTest(1);
            Check.due("least", x.collimation(0), -200);
            x.applyTest(2);
            Check.due("0", x.collimation(0), 0);
        });
        Edge.says("test: index of a test", () -> {
            LevelNetwork x = Check.network("level u 7;test u 1 0 100 1 0 0 1 1;test u 2 0 51 1 0 0 1 1;"
                    + "test u 3 0 51 1 0 0 1 1;test u 4 0 51 1 0 0 1 1;test u 5 0 51 1 0 0 1 1;test u 6 0 51 1 0 0 1 1;");
            for (int test = 0; test < 6; test++) {
                x.applyTest(test);
                Check.due("test " + test, x.collimation(0), test == 0 ? 1 : 2 * test + 2);
            }
        });
        Edge.says("Returns the previous collimation", () -> {
            LevelNetwork x = made();
            Check.due("of w", x.applyTest(0), -15);
            Check.due("the result already", x.applyTest(0), 125);
        });
        Edge.says("NONE if test is not a valid index", () -> {
            for (int count : new int[] {0, 1, 6}) {
                LevelNetwork x = Check.network("level u 7;" + "test u 1 0 2 1 0 0 1 1;".repeat(count));
                for (int test : Edge.outside(count)) {
                    Check.due("test " + test + " of " + count, x.applyTest(test), Edge.NONE);
                }
                Check.due("as before", x.collimation(0), 7);
            }
        });
        Edge.says("or has no result.", () -> {
            LevelNetwork x = Check.network("level u 7;test u 1 0 1 1 0 0 1 1;test u 3 0 2 1 0 0 1 1;test u 0 3 2 1 0 0 1 1;");
            for (int test = 0; test < 3; test++) {
                Check.due("test " + test, x.applyTest(test), Edge.NONE);
            }
            Check.due("as before", x.collimation(0), 7);
            Check.due("no change", x.undoCount(), 0);
        });
    }

    // ---- promise 61

    private static void adjust() {
        // b lies between two held points and is moved by the first round; the second one changes nothing.
        String one = "level u 0;point a 0;point b;point c 0;line a b u 0 0 1 1;line c b u 4 0 1 1;";
        // c is moved towards b, and b towards c; each round changes less.
        String two = "level u 0;point a 0;point b;point c;point d 1;line a b u 0 0 1 1;line b c u 0 0 1 1;line c d u 0 0 1 1;";
        Edge.under("Promise 61: adjust");
        Edge.says("Adjusts the heights (see HEIGHTS): they begin as the provisional ones, and rounds follow until one changes no"
                + " height or so many have followed.", () -> {
            LevelNetwork x = Check.network(two);
            // 0 and 100; 50 and 75; 38 and 69; 35 and 68; 34 and 67; 34 and 67
            int[][] due = {{50, 75}, {38, 69}, {35, 68}, {34, 67}, {34, 67}, {34, 67}};
            for (int rounds = 1; rounds <= 6; rounds++) {
                Check.due("rounds", x.adjust(rounds), Math.min(rounds, 5));
                Check.due("b after " + rounds, x.heightOf(1), due[rounds - 1][0]);
                Check.due("c after " + rounds, x.heightOf(2), due[rounds - 1][1]);
            }
        });
        Edge.says("rounds: 1 to 200, the greatest number of rounds", () -> {
            Check.due("least", Check.network(one).adjust(1), 1);
            LevelNetwork x = Check.network("level u 0;" + Edge.chain(16, "0 0 1 1"));
            x.hold(0, 0);
            x.hold(15, 9999999);
            Check.due("199 of a long chain", x.adjust(199), 199);
            long before = x.heightOf(7);
            Check.due("greatest", x.adjust(200), 200);
            Check.due("the last round changes something still", x.heightOf(7) != before, true);
        });
        Edge.says("Returns the number of rounds that followed, the last one included", () -> {
            LevelNetwork x = Check.network(one);
            Check.due("only one", x.adjust(1), 1);
            Check.due("a second one that changes nothing", x.adjust(2), 2);
            Check.due("no third one", x.adjust(3), 2);
            Check.due("nor a 200th", x.adjust(200), 2);
            Check.due("begun anew", x.adjust(200), 2);
            x.setReading(1, 0, 0, 0);
            Check.due("the first one changes nothing", x.adjust(200), 1);
            x.hold(1, 5);
            Check.due("all are held", x.adjust(200), 1);
            Check.due("no points", new LevelNetwork().adjust(200), 1);
            Check.due("no heights", Edge.sized(1, 2, 2, 0).adjust(200), 1);
        });
        Edge.says("BAD_VALUE if rounds is out of range.", () -> {
            LevelNetwork x = Check.network(one);
            for (int rounds : new int[] {0, -1, -200, 201, 202, 256, 257, 65537, MIN, MIN + 1, MAX}) {
                Check.due("rounds " + rounds, x.adjust(rounds), Edge.BAD_VALUE);
            }
            Check.due("not adjusted", x.isAdjusted(), false);
            x.adjust(1);
            x.adjust(0);
            x.adjust(201);
            Check.due("adjusted as before", x.heightOf(1), 200);
            Check.due("one change", x.undoCount(), 1);
        });
    }

    // ---- promise 62

    private static void setSetting() {
        int[] least = {0, 1, 0};
        int[] greatest = {500, 100, 800};
        int[] initial = {40, 60, 20};
        Edge.under("Promise 62: setSetting");
        Edge.says("Sets a setting.", () -> {
            LevelNetwork x = new LevelNetwork();
            x.setSetting(LevelNetwork.SIGHT, 7);
            Check.due("sight", x.getSetting(LevelNetwork.SIGHT), 7);
            Check.due("tolerance", x.getSetting(LevelNetwork.TOLERANCE), 40);
            Check.due("balance", x.getSetting(LevelNetwork.BALANCE), 20);
            x.undo();
            Check.due("undone", x.getSetting(LevelNetwork.SIGHT), 60);
        });
        Edge.says("setting: TOLERANCE, SIGHT or BALANCE", () -> {
            LevelNetwork x = new LevelNetwork();
            x.setSetting(LevelNetwork.TOLERANCE, 7);
            x.setSetting(LevelNetwork.SIGHT, 8);
            x.setSetting(LevelNetwork.BALANCE, 9);
            for (int setting = 0; setting < 3; setting++) {
                Check.due("setting " + setting, x.getSetting(setting), 7 + setting);
            }
        });
        Edge.says("value: the new value, in the range of the setting", () -> {
            LevelNetwork x = new LevelNetwork();
            for (int setting = 0; setting < 3; setting++) {
                x.setSetting(setting, least[setting]);
                Check.due("least " + setting, x.getSetting(setting), least[setting]);
                x.setSetting(setting, greatest[setting]);
                Check.due("greatest " + setting, x.getSetting(setting), greatest[setting]);
            }
        });
        Edge.says("Returns the previous value", () -> {
            LevelNetwork x = new LevelNetwork();
            for (int setting = 0; setting < 3; setting++) {
                Check.due("initial " + setting, x.setSetting(setting, least[setting]), initial[setting]);
                Check.due("least " + setting, x.setSetting(setting, greatest[setting]), least[setting]);
                Check.due("greatest " + setting, x.setSetting(setting, greatest[setting]), greatest[setting]);
            }
        });
        Edge.says("BAD_VALUE if setting is none of these", () -> {
            LevelNetwork x = new LevelNetwork();
            for (int setting : Edge.outside(3)) {
                Check.due("setting " + setting, x.setSetting(setting, 50), Edge.BAD_VALUE);
            }
            Check.due("no change", x.undoCount(), 0);
        });
        Edge.says("or value is out of its range.", () -> {
            LevelNetwork x = new LevelNetwork();
            for (int setting = 0; setting < 3; setting++) {
                for (int value : new int[] {least[setting] - 1, greatest[setting] + 1, MIN, MAX, -1, 801, 65536 + 50}) {
                    Check.due("value " + value + " of " + setting, x.setSetting(setting, value), Edge.BAD_VALUE);
                }
                Check.due("as before", x.getSetting(setting), initial[setting]);
            }
            Check.due("a value of another setting", x.setSetting(LevelNetwork.SIGHT, 500), Edge.BAD_VALUE);
        });
    }

    // ---- promise 63

    private static void undo() {
        Edge.under("Promise 63: undo");
        Edge.says("Undoes the latest change that is kept.", () -> {
            LevelNetwork x = made();
            x.hold(1, 5);
            x.setReading(2, 0, 0, 7);
            x.setSetting(LevelNetwork.BALANCE, 0);
            x.undo();
            Check.due("the setting", x.getSetting(LevelNetwork.BALANCE), 20);
            Check.due("not yet the reading", x.reading(2, 0, 0), 7);
            x.undo();
            Check.due("the reading", x.reading(2, 0, 0), 9);
            Check.due("not yet the height", x.heldAt(1), 5);
            x.hold(2, 6);
            x.undo();
            Check.due("a new change", x.heldAt(2), Edge.NOT_FOUND);
            x.undo();
            Check.due("the height", x.heldAt(1), Edge.NOT_FOUND);
        });
        Edge.says("Returns the number of changes that can still be undone", () -> {
            for (int changes = 1; changes <= 18; changes++) {
                LevelNetwork x = made();
                for (int k = 0; k < changes; k++) {
                    change(x, k % KINDS == RELEASE ? HOLD : k % KINDS);
                }
                for (int left = Math.min(changes, 8) - 1; left >= 0; left--) {
                    Check.due("of " + changes, x.undo(), left);
                    Check.due("the same", x.undoCount(), left);
                }
            }
        });
        Edge.says("NOT_FOUND if there is none to undo.", () -> {
            Check.due("a new object", new LevelNetwork().undo(), Edge.NOT_FOUND);
            LevelNetwork x = made();
            Check.due("after load", x.undo(), Edge.NOT_FOUND);
            x.hold(0, 1);
            x.undo();
            Check.due("all are undone", x.undo(), Edge.NOT_FOUND);
            Check.due("still none", x.undo(), Edge.NOT_FOUND);
            x.hold(0, 1);
            Check.due("a new one", x.undo(), 0);
            x.hold(0, 2);
            Check.load(x, "");
            Check.due("after the next load", x.undo(), Edge.NOT_FOUND);
            x.hold(0, 3);
            Check.due("after a refused call", x.undo(), Edge.NOT_FOUND);
        });
    }
}
