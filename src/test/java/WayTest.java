/** Promises 26 to 32: lines at points, parts, ways and bridges. */
public final class WayTest {
    private static final int NONE = LevelNetwork.NONE;
    private static final int NOT_FOUND = LevelNetwork.NOT_FOUND;

    // Lengths 20, 10, 30, 2 and 100; g stands alone.
    private static final String TEXT = "level v 0;point a;point b;point c;point d;point e;point f;point g;"
            + "line a b v 2000 1000 10 10;line b c v 1100 1000 5 5;line c a v 7 0 15 15;"
            + "line c d v 3 0 1 1;line f e v 0 9 50 50;";

    // A ring a, b, d, c with all lengths 20, the lines in an order of their own.
    private static final String RING = "level v 0;point a;point b;point c;point d;"
            + "line b a v 1 0 10 10;line c d v 20 0 10 10;line a c v 300 0 10 10;line d b v 4000 0 10 10;";

    public static void main(String[] args) {
        linesAt();
        parts();
        distances();
        ways();
        ring();
        bridges();
        indexes();
        Check.end();
    }

    private static void linesAt() {
        LevelNetwork x = Check.network(TEXT);
        int[] due = {0b101, 0b11, 0b1110, 0b1000, 0b10000, 0b10000, 0};
        for (int point = 0; point < due.length; point++) {
            Check.due("26: lines at " + point, x.linesAt(point), due[point]);
        }
        x.setActive(1, false);
        Check.due("26: only active ones", x.linesAt(2), 0b1100);
        x = Check.network("level v 0;point a;point b;" + "line a b v 0 0 1 1;".repeat(20));
        Check.due("26: twenty", x.linesAt(1), 0xfffff);
    }

    private static void parts() {
        LevelNetwork x = Check.network(TEXT);
        int[] due = {0, 0, 0, 0, 4, 4, 6};
        for (int point = 0; point < due.length; point++) {
            Check.due("27: root of " + point, x.rootOf(point), due[point]);
        }
        Check.due("28: parts", x.partCount(), 3);
        x.setActive(1, false);
        Check.due("28: still three", x.partCount(), 3);
        x.setActive(2, false);
        Check.due("27: root of c", x.rootOf(2), 2);
        Check.due("27: root of d", x.rootOf(3), 2);
        Check.due("28: four", x.partCount(), 4);
        Check.due("28: no points", new LevelNetwork().partCount(), 0);
    }

    private static void distances() {
        LevelNetwork x = Check.network(TEXT);
        int[][] due = {{0, 20, 30, 32, -1, -1, -1}, {20, 0, 10, 12, -1, -1, -1}, {30, 10, 0, 2, -1, -1, -1},
            {32, 12, 2, 0, -1, -1, -1}, {-1, -1, -1, -1, 0, 100, -1}, {-1, -1, -1, -1, 100, 0, -1},
            {-1, -1, -1, -1, -1, -1, 0}};
        for (int point = 0; point < 7; point++) {
            for (int other = 0; other < 7; other++) {
                Check.due("29: " + point + " to " + other, x.distance(point, other), due[point][other]);
            }
        }
        x.setActive(0, false);
        Check.due("29: along active lines alone", x.distance(0, 1), 40);
    }

    private static void ways() {
        LevelNetwork x = Check.network(TEXT);
        // a to c: line 2 is as long as lines 1 and 0, but has a higher index than line 1.
        Check.due("31: a to c", x.wayBetween(0, 2), 0b11);
        Check.due("30: a to c", x.riseBetween(0, 2), 110000);
        Check.due("31: c to a", x.wayBetween(2, 0), 0b11);
        Check.due("30: c to a", x.riseBetween(2, 0), -110000);
        Check.due("31: d to a", x.wayBetween(3, 0), 0b1011);
        Check.due("30: d to a", x.riseBetween(3, 0), -300 - 110000);
        Check.due("31: e to f", x.wayBetween(4, 5), 0b10000);
        Check.due("30: e to f", x.riseBetween(4, 5), 900);
        Check.due("31: the same point", x.wayBetween(1, 1), 0);
        Check.due("30: the same point", x.riseBetween(1, 1), 0);
        Check.due("31: no way", x.wayBetween(0, 6), 0);
        Check.due("30: no way", x.riseBetween(0, 6), NONE);
        Check.due("29: no way", x.distance(0, 6), NOT_FOUND);
        x.setReading(2, 0, 2, 14);
        Check.due("31: a shorter line", x.wayBetween(0, 2), 0b100);
        Check.due("30: gone backwards", x.riseBetween(0, 2), -700);
        x.setActive(2, false);
        Check.due("31: not active", x.wayBetween(0, 2), 0b11);
    }

    private static void ring() {
        LevelNetwork x = Check.network(RING);
        Check.due("31: a to d is found from d", x.wayBetween(0, 3), 0b110);
        Check.due("30: a to d", x.riseBetween(0, 3), 32000);
        Check.due("31: d to a is found from a", x.wayBetween(3, 0), 0b1001);
        Check.due("30: d to a", x.riseBetween(3, 0), 400100);
        Check.due("31: b to c is found from c", x.wayBetween(1, 2), 0b1010);
        Check.due("30: b to c", x.riseBetween(1, 2), -400000 - 2000);
        Check.due("31: c to b is found from b", x.wayBetween(2, 1), 0b101);
        Check.due("30: c to b", x.riseBetween(2, 1), -30000 - 100);
        x = Check.network("level v 0;point a;point b;line a b v 5 0 1 2;line a b v 7 0 1 1;line b a v 9 0 1 1;");
        Check.due("31: the shorter one of several, then the lower one", x.wayBetween(0, 1), 0b10);
        Check.due("30: the shorter one of several", x.riseBetween(1, 0), -700);
    }

    private static void bridges() {
        LevelNetwork x = Check.network(TEXT);
        Check.due("32: two", x.bridges(), 0b11000);
        x.setActive(0, false);
        Check.due("32: all but what is not active", x.bridges(), 0b11110);
        x = Check.network(RING);
        Check.due("32: none in a ring", x.bridges(), 0);
        x.setActive(3, false);
        Check.due("32: an open ring", x.bridges(), 0b111);
        x = Check.network("level v 0;point a;point b;point c;line a b v 5 0 1 2;line b a v 7 0 1 1;line c b v 7 0 1 1;");
        Check.due("32: a double line is none", x.bridges(), 0b100);
        Check.due("32: no lines", new LevelNetwork().bridges(), 0);
        // Two rings that hang together by a line.
        x = Check.network("level v 0;point a;point b;point c;point d;point e;point f;line a b v 5 0 1 2;"
                + "line b c v 5 0 1 2;line c a v 5 0 1 2;line c d v 5 0 1 2;line d e v 5 0 1 2;line e f v 5 0 1 2;"
                + "line f d v 5 0 1 2;");
        Check.due("32: between two rings", x.bridges(), 0b1000);
    }

    private static void indexes() {
        LevelNetwork x = Check.network(TEXT);
        for (int bad : new int[] {-1, 7, 16, Integer.MAX_VALUE, Integer.MIN_VALUE}) {
            Check.refused("26: " + bad, () -> x.linesAt(bad));
            Check.refused("27: " + bad, () -> x.rootOf(bad));
            Check.refused("29: point " + bad, () -> x.distance(bad, 0));
            Check.refused("29: other " + bad, () -> x.distance(0, bad));
            Check.refused("29: both " + bad, () -> x.distance(bad, bad));
            Check.refused("30: point " + bad, () -> x.riseBetween(bad, 0));
            Check.refused("30: other " + bad, () -> x.riseBetween(0, bad));
            Check.refused("30: both " + bad, () -> x.riseBetween(bad, bad));
            Check.refused("31: point " + bad, () -> x.wayBetween(bad, 0));
            Check.refused("31: other " + bad, () -> x.wayBetween(0, bad));
            Check.refused("31: both " + bad, () -> x.wayBetween(bad, bad));
        }
    }
}
