/** Promises 33 to 42: tree lines and loops. */
public final class LoopTest {
    private static final int NOT_FOUND = LevelNetwork.NOT_FOUND;
    private static final int TOLERANCE = LevelNetwork.TOLERANCE;

    // Rises 10000, 5000, -5100, 0 and 10300; all lengths 20, but 10 of line 3.
    private static final String TEXT = "level v 0;point a;point b;point c;point d;"
            + "line a b v 1100 1000 10 10;line c b v 1050 1000 10 10;line c a v 1000 1051 10 10;"
            + "line d a v 0 0 5 5;line a b v 1103 1000 10 10;";

    public static void main(String[] args) {
        trees();
        loops();
        ring();
        measures();
        greatest();
        badLoops();
        ties();
        suspects();
        without();
        indexes();
        Check.end();
    }

    private static void trees() {
        LevelNetwork x = Check.network(TEXT);
        Check.due("33: tree lines", x.treeLines(), 0b1101);
        Check.due("34: loops", x.loopCount(), 2);
        x.setActive(0, false);
        Check.due("33: without line 0", x.treeLines(), 0b11100);
        Check.due("34: one loop less", x.loopCount(), 1);
        x = new LevelNetwork();
        Check.due("33: none", x.treeLines(), 0);
        Check.due("34: none", x.loopCount(), 0);
        x = Check.network("level v 0;point a;point b;" + "line b a v 0 0 1 1;".repeat(20));
        Check.due("33: one of twenty", x.treeLines(), 1);
        Check.due("34: nineteen", x.loopCount(), 19);
        Check.due("35: the last one", x.loopLine(18, 0), 19);
        // The points of a part are taken in the order in which they are reached, not by index.
        x = Check.network("level v 0;point a;point b;point c;point d;line a d v 0 0 1 1;line a c v 0 0 1 1;"
                + "line b c v 0 0 1 1;line b d v 0 0 1 1;");
        Check.due("33: d is taken before c", x.treeLines(), 0b1011);
        Check.due("35: so the loop is that of line 2", x.loopLine(0, 0), 2);
    }

    private static void loops() {
        LevelNetwork x = Check.network(TEXT);
        way(x, 0, 1, 100, 102);
        way(x, 1, 4, 100);
        x.setActive(0, false);
        way(x, 0, 1, 104, 102);
        Check.due("35: k below 0", x.loopLine(0, -1), NOT_FOUND);
        Check.due("35: least k", x.loopLine(0, Integer.MIN_VALUE), NOT_FOUND);
        Check.due("35: greatest k", x.loopLine(0, Integer.MAX_VALUE), NOT_FOUND);
    }

    private static void ring() {
        String points = "level v 0;point a;point b;point c;point d;point e;";
        LevelNetwork x = Check.network(points + "line a b v 1 0 1 1;line b c v 10 0 1 1;line c d v 100 0 1 1;"
                + "line d e v 1000 0 1 1;line e a v 10000 0 1 1;");
        way(x, 0, 2, 3, 4, 0, 1);
        Check.due("37: all around", x.misclosure(0), 1111100);
        x = Check.network(points + "line a b v 1 0 1 1;line c b v 10 0 1 1;line d c v 100 0 1 1;"
                + "line d e v 1000 0 1 1;line a e v 10000 0 1 1;");
        way(x, 0, 2, 1, 100, 4, 103);
        Check.due("37: with turned lines", x.misclosure(0), 100 * (100 + 10 - 1 + 10000 - 1000));
        // The tree goes on from b alone: one end of the loop's own line is above the other one.
        x = Check.network(points + "line a b v 1 0 1 1;line b c v 10 0 1 1;line b d v 100 0 1 1;line c e v 9 0 1 1;"
                + "line e d v 1000 0 1 1;line e b v 3 0 1 1;");
        Check.due("33: tree lines", x.treeLines(), 0b100111);
        way(x, 0, 3, 5, 1);
        way(x, 1, 4, 102, 105);
    }

    private static void way(LevelNetwork x, int loop, int... due) {
        for (int k = 0; k < due.length; k++) {
            Check.due("35: loop " + loop + ", " + k, x.loopLine(loop, k), due[k]);
        }
        Check.due("35: loop " + loop + " ends", x.loopLine(loop, due.length), NOT_FOUND);
    }

    private static void measures() {
        LevelNetwork x = Check.network(TEXT);
        Check.due("36: length of loop 0", x.loopLength(0), 60);
        Check.due("36: length of loop 1", x.loopLength(1), 40);
        Check.due("37: misclosure of loop 0", x.misclosure(0), 100);
        Check.due("37: misclosure of loop 1", x.misclosure(1), 300);
        int[][] due = {{40, 979, 800}, {5, 122, 100}, {4, 97, 80}, {0, 0, 0}, {1, 24, 20}, {500, 12247, 10000},
            {15, 367, 300}, {14, 342, 280}};
        for (int[] one : due) {
            x.setSetting(TOLERANCE, one[0]);
            Check.due("38: allowed in loop 0 at " + one[0], x.allowed(0), one[1]);
            Check.due("38: allowed in loop 1 at " + one[0], x.allowed(1), one[2]);
        }
    }

    private static void greatest() {
        StringBuilder text = new StringBuilder("level v 0;set tolerance 500;");
        for (int k = 0; k < 16; k++) {
            text.append("point ").append((char) ('a' + k)).append(';');
        }
        for (int k = 0; k < 16; k++) {
            text.append("line ").append((char) ('a' + k)).append(' ').append((char) ('a' + (k + 1) % 16))
                    .append(" v 40000 0 100 100;");
        }
        LevelNetwork x = Check.network(text.toString());
        for (int line = 0; line < 16; line++) {
            for (int setup = 1; setup < 8; setup++) {
                x.addSetup(line, 40000, 0, 100, 100);
            }
        }
        Check.due("34: one loop", x.loopCount(), 1);
        Check.due("36: the longest one", x.loopLength(0), 25600);
        Check.due("37: the greatest misclosure", x.misclosure(0), 512000000);
        Check.due("38: the greatest allowed", x.allowed(0), 252982);
        Check.due("35: its last line", x.loopLine(0, 15) % 100 < 16, true);
        Check.due("35: no more", x.loopLine(0, 16), NOT_FOUND);
        Check.due("29: half around", x.distance(0, 8), 12800);
    }

    private static void badLoops() {
        LevelNetwork x = Check.network(TEXT);
        Check.due("39: none at 40", x.badLoops(), 0);
        Check.due("40: none at 40", x.worstLoop(), NOT_FOUND);
        x.setSetting(TOLERANCE, 15);
        Check.due("39: exactly what is allowed is good", x.badLoops(), 0);
        Check.due("40: exactly what is allowed is good", x.worstLoop(), NOT_FOUND);
        x.setSetting(TOLERANCE, 14);
        Check.due("39: loop 1 at 14", x.badLoops(), 0b10);
        Check.due("40: loop 1 at 14", x.worstLoop(), 1);
        x.setSetting(TOLERANCE, 4);
        Check.due("39: both at 4", x.badLoops(), 0b11);
        Check.due("40: both at 4", x.worstLoop(), 1);
        x.setReading(4, 0, 0, 1097);
        Check.due("37: below 0", x.misclosure(1), -300);
        Check.due("39: below 0 counts as well", x.badLoops(), 0b11);
        Check.due("40: below 0 counts as well", x.worstLoop(), 1);
        Check.due("39: a new object", new LevelNetwork().badLoops(), 0);
        Check.due("40: a new object", new LevelNetwork().worstLoop(), NOT_FOUND);
    }

    private static void ties() {
        String lines = "level v 0;set tolerance 0;point a;point b;line a b v 10 10 1 1;";
        LevelNetwork x = Check.network(lines + "line a b v 11 10 1 1;line a b v 10 11 1 1;line b a v 11 10 1 1;");
        Check.due("39: all three", x.badLoops(), 0b111);
        Check.due("40: the lowest of equal ones", x.worstLoop(), 0);
        x = Check.network(lines + "line a b v 11 10 1 1;line a b v 10 12 1 1;line b a v 12 10 1 1;");
        Check.due("40: the lowest of the worst", x.worstLoop(), 1);
        // What is allowed depends on the length: 300 of 632 and 900 of 894.
        x = Check.network("level v 0;set tolerance 20;point a;point b;line a b v 0 0 1 1;line a b v 6 0 1 97;"
                + "line a b v 7 0 1 1;line a b v 9 0 98 100;");
        Check.due("38: loop 0", x.allowed(0), 632);
        Check.due("38: loop 1", x.allowed(1), 126);
        Check.due("38: loop 2", x.allowed(2), 894);
        Check.due("39: loops 1 and 2", x.badLoops(), 0b110);
        Check.due("40: the one that exceeds most", x.worstLoop(), 1);
    }

    private static void suspects() {
        LevelNetwork x = Check.network(TEXT);
        Check.due("41: no bad loop", x.suspectLine(), NOT_FOUND);
        x.setSetting(TOLERANCE, 5);
        Check.due("41: line 0 is in a good loop too", x.suspectLine(), 4);
        x.setSetting(TOLERANCE, 4);
        Check.due("41: line 0 is in two bad loops", x.suspectLine(), 0);
        x.setActive(4, false);
        Check.due("41: the lowest of equal ones", x.suspectLine(), 0);
        x = Check.network("level v 0;set tolerance 0;point a;point b;point c;line a b v 0 0 1 1;line b c v 5 0 1 1;"
                + "line a b v 0 0 1 1;line c b v 0 0 1 1;");
        Check.due("39: loop 1", x.badLoops(), 0b10);
        Check.due("41: lines 1 and 3", x.suspectLine(), 1);
        x = Check.network("level v 0;set tolerance 0;point a;point b;point c;line a b v 0 0 1 1;line b c v 0 0 1 1;"
                + "line c a v 5 0 1 1;line a b v 0 0 1 1;line b c v 0 0 1 1;line a c v 0 0 1 1;");
        Check.due("33: tree lines", x.treeLines(), 0b101);
        Check.due("39: loops 0, 2 and 3", x.badLoops(), 0b1101);
        Check.due("41: in the most bad loops", x.suspectLine(), 2);
        x = Check.network("level v 0;set tolerance 0;point a;point b;line a b v 0 0 1 1;line a b v 0 0 1 1;");
        Check.due("41: all good", x.suspectLine(), NOT_FOUND);
    }

    private static void without() {
        LevelNetwork x = Check.network(TEXT);
        bad(x, 40, 0, 0, 0, 0, 0);
        bad(x, 5, 1, 1, 1, 1, 0);
        bad(x, 4, 1, 1, 1, 2, 1);
        x.setSetting(TOLERANCE, 5);
        x.setActive(4, false);
        Check.due("42: a line that is not active", x.badWithout(4), 0);
        x.setReading(2, 0, 0, 1009);
        Check.due("42: not active, one bad loop", x.badWithout(4), 1);
        Check.due("42: the tree has no loop left", x.badWithout(0), 0);
        Check.due("42: nothing has changed", x.lineProperty(0, 4), 1);
        Check.due("42: the loop stands", x.loopCount(), 1);
    }

    private static void bad(LevelNetwork x, int tolerance, int... due) {
        x.setSetting(TOLERANCE, tolerance);
        for (int line = 0; line < due.length; line++) {
            Check.due("42: without " + line + " at " + tolerance, x.badWithout(line), due[line]);
        }
    }

    private static void indexes() {
        LevelNetwork x = Check.network(TEXT);
        for (int bad : new int[] {-1, 2, 19, 20, Integer.MAX_VALUE, Integer.MIN_VALUE}) {
            Check.refused("35: " + bad, () -> x.loopLine(bad, 0));
            Check.refused("35: " + bad + ", checked first", () -> x.loopLine(bad, -1));
            Check.refused("36: " + bad, () -> x.loopLength(bad));
            Check.refused("37: " + bad, () -> x.misclosure(bad));
            Check.refused("38: " + bad, () -> x.allowed(bad));
        }
        for (int bad : new int[] {-1, 5, 20, 32, Integer.MAX_VALUE, Integer.MIN_VALUE}) {
            Check.refused("42: " + bad, () -> x.badWithout(bad));
        }
        x.setActive(4, false);
        Check.refused("36: there is one loop less", () -> x.loopLength(1));
    }
}
