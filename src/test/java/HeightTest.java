/** Promises 43 to 53 and 61: provisional and adjusted heights. */
public final class HeightTest {
    private static final int NONE = LevelNetwork.NONE;
    private static final int NOT_FOUND = LevelNetwork.NOT_FOUND;
    private static final long NO_HEIGHT = Check.NO_HEIGHT;

    // Rises 50000, -48000, 10000 and 0; lengths 20, 40, 20 and 10; e stands alone with f.
    private static final String TEXT = "level v 0;point a 1000;point b;point c 2000;point d;point e;point f;"
            + "line a b v 1500 1000 10 10;line c b v 1000 1480 20 20;line b d v 1100 1000 10 10;line e f v 0 0 5 5;";

    public static void main(String[] args) {
        benchGaps();
        provisional();
        order();
        counts();
        before();
        rounds();
        adjusted();
        worst();
        moved();
        halves();
        nothingHeld();
        notActive();
        great();
        indexes();
        Check.end();
    }

    private static void benchGaps() {
        LevelNetwork x = Check.network(TEXT);
        Check.due("43: a to c", x.benchGap(0, 2), -2000);
        Check.due("43: c to a", x.benchGap(2, 0), 2000);
        Check.due("43: the same point", x.benchGap(0, 0), 0);
        Check.due("43: other is not held", x.benchGap(0, 1), NONE);
        Check.due("43: point is not held", x.benchGap(1, 0), NONE);
        Check.due("43: the same point, not held", x.benchGap(1, 1), NONE);
        x.hold(4, 5);
        Check.due("43: no way", x.benchGap(0, 4), NONE);
        x.hold(0, 0);
        x.hold(2, 9999999);
        Check.due("43: far apart", x.benchGap(0, 2), 98000 - 999999900);
        Check.due("43: far apart, back", x.benchGap(2, 0), -98000 + 999999900);
    }

    private static void provisional() {
        LevelNetwork x = Check.network(TEXT);
        long[] due = {100000, 150000, 200000, 160000, NO_HEIGHT, NO_HEIGHT};
        for (int point = 0; point < due.length; point++) {
            Check.due("44: height of " + point, x.provisional(point), due[point]);
        }
        Check.due("45: reached", x.reached(), 0b1111);
        x.setActive(0, false);
        Check.due("44: by line 1, backwards", x.provisional(1), 152000);
        x.release(2);
        Check.due("44: no way to a held point", x.provisional(1), NO_HEIGHT);
        Check.due("45: a alone", x.reached(), 1);
        x.release(0);
        Check.due("45: none", x.reached(), 0);
        x.hold(5, 0);
        Check.due("44: held at 0", x.provisional(5), 0);
        Check.due("45: e and f", x.reached(), 0b110000);
        Check.due("45: a new object", new LevelNetwork().reached(), 0);
    }

    private static void order() {
        LevelNetwork x = Check.network("level v 0;point a;point b 0;point c 1000;line c a v 0 0 1 1;line b a v 1 0 1 1;");
        Check.due("44: the lowest held point comes first", x.provisional(0), 100);
        x = Check.network("level v 0;point a;point b;point c;point d 0;line a b v 1 0 1 1;line c b v 20 0 1 1;"
                + "line d c v 300 0 1 1;line d a v 4000 0 1 1;");
        // d reaches c by line 2 before a by line 3, and so c is taken before a.
        Check.due("44: what is reached first is taken first", x.provisional(1), 32000);
        x = Check.network("level v 0;point a 0;point b;line a b v 1 0 1 1;line a b v 2 0 1 1;");
        Check.due("44: the lowest line", x.provisional(1), 100);
        x = Check.network("level v 200;point a 0;point b;line a b v 0 40000 100 1;");
        Check.due("44: below 0", x.provisional(1), -4019800);
    }

    private static void counts() {
        LevelNetwork x = Check.network(TEXT);
        Check.due("52: redundancy", x.redundancy(), 1);
        Check.due("53: total length", x.totalLength(), 90);
        x.setActive(1, false);
        Check.due("52: a line less", x.redundancy(), 0);
        Check.due("53: a line less", x.totalLength(), 50);
        x.hold(1, 5);
        Check.due("52: a held point more", x.redundancy(), 1);
        x.hold(3, 5);
        Check.due("52: all held", x.redundancy(), 2);
        for (int point = 0; point < 4; point++) {
            x.release(point);
        }
        Check.due("52: nothing is held", x.redundancy(), 0);
        Check.due("52: a new object", new LevelNetwork().redundancy(), 0);
        Check.due("53: a new object", new LevelNetwork().totalLength(), 0);
    }

    private static void before() {
        LevelNetwork x = Check.network(TEXT);
        Check.due("46: not adjusted", x.isAdjusted(), false);
        Check.due("47: no height", x.heightOf(0), NO_HEIGHT);
        Check.due("48: no residual", x.residual(0), NO_HEIGHT);
        Check.due("49: no residual", x.worstLine(), NOT_FOUND);
        Check.due("50: no heights", x.mostMoved(), NOT_FOUND);
        Check.due("51: no residuals", x.residualSum(), 0);
        for (int rounds : new int[] {0, -1, 201, Integer.MAX_VALUE, Integer.MIN_VALUE}) {
            Check.due("61: rounds out of range", x.adjust(rounds), LevelNetwork.BAD_VALUE);
        }
        Check.due("61: still not adjusted", x.isAdjusted(), false);
        Check.due("61: no change", x.undoCount(), 0);
        Check.due("61: no points", new LevelNetwork().adjust(200), 1);
    }

    private static void rounds() {
        LevelNetwork x = Check.network(TEXT);
        long[] due = {400, 560, 624, 650, 660, 664, 666, 666};
        for (int rounds = 1; rounds <= 8; rounds++) {
            Check.due("61: rounds", x.adjust(rounds), rounds);
            Check.due("61: b after " + rounds, x.heightOf(1), 150000 + due[rounds - 1]);
            Check.due("61: d after " + rounds, x.heightOf(3), 160000 + due[rounds - 1]);
        }
        Check.due("61: the round that changes nothing is the last one", x.adjust(9), 8);
        Check.due("61: at most", x.adjust(200), 8);
        Check.due("61: each is a change", x.undoCount(), 8);
    }

    private static void adjusted() {
        LevelNetwork x = Check.network(TEXT);
        x.adjust(200);
        Check.due("46: adjusted", x.isAdjusted(), true);
        long[] heights = {100000, 150666, 200000, 160666, NO_HEIGHT, NO_HEIGHT};
        for (int point = 0; point < heights.length; point++) {
            Check.due("47: height of " + point, x.heightOf(point), heights[point]);
        }
        long[] residuals = {666, -1334, 0, NO_HEIGHT};
        for (int line = 0; line < residuals.length; line++) {
            Check.due("48: residual of " + line, x.residual(line), residuals[line]);
        }
        Check.due("49: 33350 beats 33300", x.worstLine(), 1);
        Check.due("50: b and d have moved alike", x.mostMoved(), 1);
        Check.due("51: sum", x.residualSum(), 666 * 50000 + 1334 * 25000);
        Check.due("44: the provisional heights stand", x.provisional(1), 150000);
    }

    private static void worst() {
        // Residuals of 0 count as residuals; of equal ones the lowest line is the worst.
        LevelNetwork x = Check.network("level v 0;point a;point b;point c 0;point d;line a b v 0 0 1 1;"
                + "line c d v 5 0 1 1;line d c v 0 5 1 1;");
        x.adjust(1);
        Check.due("49: line 0 has no residual", x.worstLine(), 1);
        Check.due("50: nothing has moved", x.mostMoved(), 2);
        Check.due("51: nothing", x.residualSum(), 0);
        // Both points are held, so that a residual is but the rise with the opposite sign.
        x = Check.network("level u 1;level v 0;point a 0;point b 0;line a b u 0 0 100 99;line a b v 0 2 100 99;"
                + "line b a v 2 0 100 100;line a b v 3 0 99 100;");
        x.adjust(1);
        Check.due("48: of a held pair", x.residual(0), 1);
        Check.due("48: below 0", x.residual(3), -300);
        Check.due("49: without the sign", x.worstLine(), 3);
        Check.due("51: without the signs", x.residualSum(), 1 * 5025 + 200 * 5025 + 200 * 5000 + 300 * 5025);
        x.setReading(3, 0, 0, 2);
        x.adjust(1);
        Check.due("49: the lowest of equal ones", x.worstLine(), 1);
        x = Check.network("level u 1;point a 0;point b 0;line a b u 0 0 100 97;line a b u 0 0 100 99;");
        x.adjust(1);
        Check.due("48: three", x.residual(0), 3);
        Check.due("49: 15 beats 5", x.worstLine(), 0);
        x = Check.network("level u 1;level w 2;point a 0;point b 0;line a b w 0 0 100 100 90 90 51 50;"
                + "line a b w 0 0 100 100 90 90 50 49;line a b u 0 0 1 100;");
        x.adjust(1);
        Check.due("48: two", x.residual(0), 2);
        Check.due("48: two again", x.residual(1), 2);
        Check.due("48: minus 99", x.residual(2), -99);
        Check.due("49: line 2", x.worstLine(), 2);
        x.setActive(2, false);
        x.adjust(1);
        Check.due("49: 2000 / 301 and 2000 / 299 are both 6", x.worstLine(), 0);
        x = Check.network("level u 1;level v 0;point a 0;point b 0;line a b u 0 0 1 2;"
                + "line a b v 2 0 100 100 0 0 100 100 0 0 100 99;");
        x.adjust(1);
        Check.due("49: 1000 / 3 and 200000 / 599 are both 333", x.worstLine(), 0);
    }

    private static void moved() {
        // b lies between a and c, d between c and e; d moves more, downwards.
        LevelNetwork x = Check.network("level v 0;point a 0;point b;point c 0;point d;point e 0;line a b v 0 0 1 1;"
                + "line c b v 4 0 1 1;line c d v 9 0 1 1;line e d v 3 0 1 1;");
        x.adjust(1);
        Check.due("47: b", x.heightOf(1), 200);
        Check.due("47: d", x.heightOf(3), 600);
        Check.due("50: downwards counts as well", x.mostMoved(), 3);
        x.setReading(3, 0, 0, 5);
        x.adjust(1);
        Check.due("50: the lowest of equal ones", x.mostMoved(), 1);
    }

    private static void halves() {
        String points = "level u 1;level v 0;point a 0;point b;point c 0;";
        LevelNetwork x = Check.network(points + "line a b u 0 0 1 2;line c b v 0 0 1 2;");
        Check.due("61: one round and one more", x.adjust(10), 1);
        Check.due("61: 0.5 is rounded upwards", x.heightOf(1), 1);
        x = Check.network(points + "line a b u 0 0 2 1;line c b v 0 0 1 2;");
        Check.due("61: two rounds", x.adjust(10), 2);
        Check.due("61: -0.5 is rounded upwards", x.heightOf(1), 0);
        x = Check.network(points + "line a b u 0 0 5 2;line c b v 0 0 1 6;");
        x.adjust(1);
        Check.due("61: -1.5 is rounded upwards", x.heightOf(1), -1);
        x = Check.network(points + "line a b u 0 0 5 1;line c b u 0 0 1 2;line c b u 0 0 3 3;");
        // -4 * 166666, 1 * 333333, 0 * 166666: -333331 / 666665 is above -0.5
        x.adjust(1);
        Check.due("61: just above -0.5", x.heightOf(1), 0);
        x = Check.network(points + "line a b u 0 0 6 1;line c b u 0 0 1 2;line c b v 0 0 3 3;");
        // -5 * 142857, 1 * 333333, 0 * 166666: -380952 / 642856 is -0.59
        x.adjust(1);
        Check.due("61: to the nearest integer", x.heightOf(1), -1);
        x = Check.network(points + "line a b u 0 0 2 4;line c b v 0 0 1 1;");
        // 2 * 166666, 0 * 500000: 333332 / 666666
        x.adjust(1);
        Check.due("61: just below 0.5", x.heightOf(1), 0);
    }

    private static void nothingHeld() {
        LevelNetwork x = Check.network("level v 0;point a;point b;line a b v 1 0 1 1;");
        Check.due("61: a round changes nothing", x.adjust(5), 1);
        Check.due("46: adjusted all the same", x.isAdjusted(), true);
        Check.due("47: no height", x.heightOf(0), NO_HEIGHT);
        Check.due("48: no residual", x.residual(0), NO_HEIGHT);
        Check.due("49: no residual", x.worstLine(), NOT_FOUND);
        Check.due("50: no point has a height", x.mostMoved(), NOT_FOUND);
        Check.due("51: nothing", x.residualSum(), 0);
    }

    private static void notActive() {
        LevelNetwork x = Check.network(TEXT);
        x.setActive(1, false);
        Check.due("61: nothing to adjust", x.adjust(5), 1);
        Check.due("48: not active", x.residual(1), NO_HEIGHT);
        Check.due("48: active", x.residual(0), 0);
        Check.due("47: without line 1", x.heightOf(1), 150000);
        Check.due("51: only lines that have a residual", x.residualSum(), 0);
        Check.due("49: only lines that have a residual", x.worstLine(), 0);
        x.setActive(1, true);
        x.setActive(0, false);
        x.adjust(5);
        Check.due("47: without line 0", x.heightOf(1), 152000);
        Check.due("49: the lowest that has one", x.worstLine(), 1);
    }

    private static void great() {
        LevelNetwork x = Check.network("level v 0;point a 9999999;point b;point c 0;line a b v 40000 0 1 1;"
                + "line c b v 0 40000 1 1;");
        x.adjust(200);
        Check.due("47: great heights", x.heightOf(1), 499999950);
        Check.due("48: a great residual", x.residual(0), 499999950L - 999999900 - 4000000);
        Check.due("51: a great sum", x.residualSum(), 503999950L * 500000 * 2);
        Check.due("49: the lowest of equal ones", x.worstLine(), 0);
    }

    private static void indexes() {
        LevelNetwork x = Check.network(TEXT);
        x.adjust(1);
        for (int bad : new int[] {-1, 6, 16, 20, Integer.MAX_VALUE, Integer.MIN_VALUE}) {
            Check.refused("43: point " + bad, () -> x.benchGap(bad, 0));
            Check.refused("43: other " + bad, () -> x.benchGap(0, bad));
            Check.refused("43: other " + bad + " of a point that is not held", () -> x.benchGap(1, bad));
            Check.refused("44: point " + bad, () -> x.provisional(bad));
            Check.refused("47: point " + bad, () -> x.heightOf(bad));
            Check.refused("48: line " + bad, () -> x.residual(bad));
        }
        Check.refused("48: line 4", () -> x.residual(4));
        Check.refused("47: no point", () -> new LevelNetwork().heightOf(0));
    }
}
