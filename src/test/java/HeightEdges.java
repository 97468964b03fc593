/** HEIGHTS and promises 43 to 53, sentence by sentence. */
final class HeightEdges {
    // a and d are held, b and c are not; all lines have the length 2.
    private static final String BETWEEN = "level u 0;point a 0;point b;point c;point d 100;"
            + "line a b u 0 0 1 1;line b c u 0 0 1 1;line c d u 0 0 1 1;";

    private HeightEdges() {
    }

    static void all() {
        heights();
        benchGaps();
        provisional();
        adjusted();
        residuals();
        worstLines();
        mostMoved();
        sums();
    }

    private static void heights(LevelNetwork x, long... due) {
        for (int point = 0; point < due.length; point++) {
            Check.due("adjusted height of " + point, x.heightOf(point), due[point]);
        }
    }

    private static void carried(LevelNetwork x, long... due) {
        for (int point = 0; point < due.length; point++) {
            Check.due("provisional height of " + point, x.provisional(point), due[point]);
        }
    }

    private static LevelNetwork adjusted(String text, int rounds) {
        LevelNetwork x = Check.network(text);
        x.adjust(rounds);
        return x;
    }

    // ---- HEIGHTS

    private static void heights() {
        Edge.under("HEIGHTS");
        Edge.says("Provisional heights: first, all held points have 100 times the height at which they are held, and stand in a"
                + " queue in ascending order.", () -> {
            carried(Check.network("level u 0;point a 5;point b 9999999;point c 0;line a b u 7 0 1 1;line b c u 7 0 1 1;"),
                    500, 999999900, 0);
            // Of the held points b and c, b is taken first, though c has the lower line.
            carried(Check.network("level u 0;point a;point b 0;point c 0;line c a u 1 0 1 1;line b a u 20 0 1 1;"), 2000, 0, 0);
        });
        Edge.says("As long as the queue is not empty, its first point is taken, and for each active line of it, in ascending"
                + " order, whose other point has no height yet, the other point gets the height to which this line leads, and is"
                + " put at the end of the queue.", HeightEdges::queue);
        Edge.says("Adjusted heights: there are none until adjust is called.", () -> {
            LevelNetwork x = Check.network(BETWEEN);
            heights(x, Edge.NO_HEIGHT, Edge.NO_HEIGHT, Edge.NO_HEIGHT, Edge.NO_HEIGHT);
            x.adjust(0);
            Check.due("not by a refused call", x.isAdjusted(), false);
            x.adjust(1);
            Check.due("adjusted", x.isAdjusted(), true);
            Check.load(x, BETWEEN);
            Check.due("not adjusted after load", x.isAdjusted(), false);
        });
        Edge.says("They begin as the provisional ones.", () -> {
            // b begins at 0 from a, c begins at 10000 from d.
            LevelNetwork x = adjusted(BETWEEN, 1);
            heights(x, 0, 5000, 7500, 10000);
            x.adjust(1);
            heights(x, 0, 5000, 7500, 10000);
            x.adjust(2);
            heights(x, 0, 3750, 6875, 10000);
        });
        Edge.says("In a round, for each point in ascending order that has a height and is not held, its height becomes the"
                + " weighted mean of the heights to which its active lines lead from their other points (with the weights of the"
                + " lines), rounded to the nearest integer, halves upwards.", HeightEdges::rounds);
        Edge.says("Each call that makes a change (see CHANGES) other than adjust removes the adjusted heights.", () -> {
            for (int kind = 0; kind < ChangeEdges.KINDS; kind++) {
                LevelNetwork x = ChangeEdges.made();
                x.adjust(3);
                ChangeEdges.change(x, kind);
                boolean adjusts = kind == ChangeEdges.ADJUST;
                Check.due("after change " + kind, x.isAdjusted(), adjusts);
                Check.due("the height after change " + kind, x.heightOf(0) == Edge.NO_HEIGHT, !adjusts);
            }
        });
    }

    private static void queue() {
        // Two lines from a to b: the lower one is taken.
        carried(Check.network("level u 0;point a 0;point b;line a b u 1 0 1 1;line a b u 20 0 1 1;"), 0, 100);
        carried(Check.network("level u 0;point a 0;point b;line b a u 1 0 1 1;line a b u 20 0 1 1;"), 0, -100);
        // d gets its height before c, and so b gets it from d.
        carried(Check.network("level u 0;point a 0;point b;point c;point d;line a d u 1 0 1 1;line a c u 20 0 1 1;"
                + "line c b u 300 0 1 1;line d b u 4000 0 1 1;"), 0, 400100, 2000, 100);
        // Both held points are taken before what they reach: c's line to e comes before b's, that was reached.
        carried(Check.network("level u 0;point a 0;point b;point c 0;point e;line a b u 1 0 1 1;line b e u 20 0 1 1;"
                + "line c e u 300 0 1 1;"), 0, 100, 0, 30000);
        LevelNetwork x = Check.network("level u 0;point a 0;point b;point c;line a b u 1 0 1 1;line b c u 20 0 1 1;");
        x.setActive(1, false);
        carried(x, 0, 100, Edge.NO_HEIGHT);
        x.setActive(0, false);
        x.setActive(1, true);
        carried(x, 0, Edge.NO_HEIGHT, Edge.NO_HEIGHT);
        x.release(0);
        carried(x, Edge.NO_HEIGHT, Edge.NO_HEIGHT, Edge.NO_HEIGHT);
        // All sixteen points stand in the queue.
        x = Check.network("level u 0;" + Edge.chain(16, "1 0 1 1"));
        x.hold(15, 0);
        Check.due("at the end of a chain", x.provisional(0), -1500);
        for (int point = 0; point < 16; point++) {
            x.hold(point, point);
        }
        Check.due("all are held", x.provisional(15), 1500);
    }

    private static void rounds() {
        // In ascending order: c's mean is with the new height of b.
        heights(adjusted(BETWEEN, 1), 0, 5000, 7500, 10000);
        // Held points stay, points without a height stay without.
        heights(adjusted("level u 0;point a 7;point b 9;point c;point d;line a b u 0 0 1 1;line c d u 0 0 1 1;", 5),
                700, 900, Edge.NO_HEIGHT, Edge.NO_HEIGHT);
        // 300 with the weight 500000 and 0 with 250000; then both with a third one of 0 that is not active.
        String weights = "level u 0;point a 0;point b;point c 0;line a b u 3 0 1 1;line b c u 0 0 2 2;line c b u 0 0 1 1;";
        heights(adjusted(weights, 1), 0, 120, 0);
        LevelNetwork x = Check.network(weights);
        x.setActive(2, false);
        x.adjust(1);
        heights(x, 0, 200, 0);
        // 1, -1, 3 and -3 in level u, each with 0 in level v, all with the weights of their common length.
        String[][] halves = {{"1 2", "1"}, {"2 1", "0"}, {"1 4", "2"}, {"4 1", "-1"}, {"1 6", "3"}, {"6 1", "-2"}};
        for (String[] half : halves) {
            x = adjusted("level u 1;level v 0;point a 0;point b;point c 0;line a b u 0 0 " + half[0] + ";line c b v 0 0 " + half[0]
                    + ";", 1);
            Check.due("a half of " + half[0], x.heightOf(1), Long.parseLong(half[1]));
        }
        // 2 with 166666 and 0 with 333333: just above two thirds of 1; with -2 the same below 0.
        String thirds = "level u 1;level v 0;point a 0;point b;point c 0;line c b v 0 0 1 2;line a b u 0 0 ";
        Check.due("2 / 3", adjusted(thirds + "2 4;", 1).heightOf(1), 1);
        Check.due("-2 / 3", adjusted(thirds + "4 2;", 1).heightOf(1), -1);
        // 2 with 100000 and 0 with 333333: below a half.
        Check.due("2 / 4.3", adjusted(thirds + "4 6;", 1).heightOf(1), 0);
        Check.due("-2 / 4.3", adjusted(thirds + "6 4;", 1).heightOf(1), 0);
        // 2 with 166666 and 0 with 500000: 333332 of 666666, just below a half; 1 with 333333 more is above.
        Check.due("just below a half", adjusted("level u 1;level v 0;point a 0;point b;point c 0;line a b u 0 0 2 4;line c b v 0 0 1 1;", 1)
                .heightOf(1), 0);
        // The first point is adjusted like any other, and so is the last one.
        heights(adjusted("level u 0;point a;point b 0;point c 0;line b a u 0 0 1 1;line c a u 4 0 1 1;", 1), 200, 0, 0);
        x = Check.network("level u 0;" + Edge.points(16) + "line a p u 0 0 1 1;line b p u 4 0 1 1;");
        x.hold(0, 0);
        x.hold(1, 0);
        x.adjust(1);
        Check.due("the last point", x.heightOf(15), 200);
        // Great heights: 9999999 and 0 tenths, and rises of 4000000 thousandths.
        x = adjusted("level u 0;point a 9999999;point b;point c 0;line a b u 40000 0 1 1;line c b u 0 40000 1 1;", 1);
        Check.due("great heights", x.heightOf(1), 499999950);
    }

    // ---- promise 43

    private static void benchGaps() {
        String text = "level u 0;point a 7;point b;point c 9;point d 1;line a b u 5 0 1 1;line c b u 1 0 1 1;line a c u 0 0 9 9;";
        Edge.under("Promise 43: benchGap");
        Edge.says("Returns by how much the rise along the shortest way from a held point to another held point differs from that"
                + " of the heights at which they are held.", () -> {
            LevelNetwork x = Check.network(text);
            Check.due("over b", x.benchGap(0, 2), 400 - 200);
            Check.due("and back", x.benchGap(2, 0), 200 - 400);
            x.setReading(2, 0, 2, 1);
            x.setReading(2, 0, 3, 1);
            Check.due("along line 2", x.benchGap(0, 2), -200);
        });
        Edge.says("point: index of a point", () -> Edge.answersPoints((x, point) -> x.benchGap(point, 0)));
        Edge.says("other: index of a point", () -> Edge.answersPoints((x, point) -> x.benchGap(0, point)));
        Edge.says("Returns riseBetween minus 100 times (the height of other minus the height of point)", () -> {
            LevelNetwork x = Check.network("level u 200 down;" + Edge.chain(16, "40000 0 100 1"));
            for (int k = 0; k < 15 * 7; k++) {
                x.addSetup(k % 15, 40000, 0, 100, 1);
            }
            x.hold(0, 9999999);
            x.hold(15, 0);
            Check.due("greatest", x.benchGap(0, 15), 15 * 32158400 + 999999900);
            Check.due("least", x.benchGap(15, 0), -15 * 32158400 - 999999900);
            Check.due("the same point", x.benchGap(0, 0), 0);
            x.hold(1, 5);
            Check.due("neighbours", x.benchGap(0, 1), 32158400 - 500 + 999999900);
        });
        Edge.says("NONE if one of both is not held", () -> {
            LevelNetwork x = Check.network(text);
            Check.due("other is not held", x.benchGap(0, 1), Edge.NONE);
            Check.due("point is not held", x.benchGap(1, 0), Edge.NONE);
            Check.due("the same point, not held", x.benchGap(1, 1), Edge.NONE);
            x.release(0);
            Check.due("released", x.benchGap(0, 2), Edge.NONE);
            x.hold(1, 0);
            Check.due("held at 0 is held", x.benchGap(1, 2), -100 - 900);
        });
        Edge.says("or there is no way.", () -> {
            LevelNetwork x = Check.network(text);
            Check.due("d stands alone", x.benchGap(0, 3), Edge.NONE);
            Check.due("and back", x.benchGap(3, 0), Edge.NONE);
            Check.due("d itself", x.benchGap(3, 3), 0);
            x.setActive(2, false);
            x.setActive(1, false);
            Check.due("not active", x.benchGap(0, 2), Edge.NONE);
        });
        Edge.says("Throws IndexOutOfBoundsException if point or other is not a valid index",
                () -> WayEdges.refusesBoth(LevelNetwork::benchGap));
    }

    // ---- promises 44 and 45

    private static void provisional() {
        Edge.under("Promise 44: provisional");
        Edge.says("Returns the provisional height of a point (see HEIGHTS).", () -> {
            LevelNetwork x = Check.network(BETWEEN);
            carried(x, 0, 0, 10000, 10000);
            x.adjust(5);
            carried(x, 0, 0, 10000, 10000);
        });
        Edge.says("point: index of a point", () -> Edge.answersPoints(LevelNetwork::provisional));
        Edge.says("Returns the height", () -> {
            LevelNetwork x = Check.network("level u 200 down;" + Edge.chain(16, "40000 0 100 1"));
            for (int k = 0; k < 15 * 7; k++) {
                x.addSetup(k % 15, 40000, 0, 100, 1);
            }
            x.hold(0, 9999999);
            Check.due("greatest", x.provisional(15), 999999900 + 15 * 32158400);
            x.release(0);
            x.hold(15, 0);
            Check.due("least", x.provisional(0), -15 * 32158400);
            Check.due("held at 0", x.provisional(15), 0);
        });
        Edge.says("Long.MIN_VALUE if it has none.", () -> {
            LevelNetwork x = Check.network("level u 0;point a;point b;point c 0;line a b u 0 0 1 1;");
            carried(x, Edge.NO_HEIGHT, Edge.NO_HEIGHT, 0);
            x.release(2);
            Check.due("not held any more", x.provisional(2), Edge.NO_HEIGHT);
        });
        Edge.says("Throws IndexOutOfBoundsException if point is not a valid index",
                () -> Edge.refusesPoints(LevelNetwork::provisional));

        Edge.under("Promise 45: reached");
        Edge.says("Returns the points with a provisional height.", () -> {
            LevelNetwork x = Check.network("level u 0;point a;point b 5;point c;point d;line b c u 0 0 1 1;line d a u 0 0 1 1;");
            Check.due("b and c", x.reached(), 0b0110);
            x.hold(3, 0);
            Check.due("all", x.reached(), 0b1111);
            x.setActive(1, false);
            Check.due("a not", x.reached(), 0b1110);
        });
        Edge.says("Returns the points as a bit set: bit p is 1 for point p.", () -> {
            Check.due("no points", new LevelNetwork().reached(), 0);
            LevelNetwork x = Edge.sized(1, 16, 0, 0);
            Check.due("none", x.reached(), 0);
            x.hold(15, 0);
            Check.due("the last one", x.reached(), 1 << 15);
            for (int point = 0; point < 16; point++) {
                x.hold(point, 1);
            }
            Check.due("all sixteen", x.reached(), 0xffff);
        });
    }

    // ---- promises 46 and 47

    private static void adjusted() {
        Edge.under("Promise 46: isAdjusted");
        Edge.says("Tells whether there are adjusted heights.", () -> {
            LevelNetwork x = Check.network(BETWEEN);
            Check.due("not yet", x.isAdjusted(), false);
            x.adjust(1);
            Check.due("now", x.isAdjusted(), true);
            x.hold(0, 0);
            Check.due("not any more", x.isAdjusted(), false);
            x.undo();
            Check.due("again", x.isAdjusted(), true);
            x.undo();
            Check.due("as at first", x.isAdjusted(), false);
        });
        Edge.says("Returns true if there are.", () -> {
            Check.due("a new object", new LevelNetwork().isAdjusted(), false);
            Check.due("after one round", adjusted(BETWEEN, 1).isAdjusted(), true);
            Check.due("after 200 rounds", adjusted(BETWEEN, 200).isAdjusted(), true);
            Check.due("after a refused call", adjusted(BETWEEN, 201).isAdjusted(), false);
        });

        Edge.under("Promise 47: heightOf");
        Edge.says("Returns the adjusted height of a point.", () -> heights(adjusted(BETWEEN, 1), 0, 5000, 7500, 10000));
        Edge.says("point: index of a point", () -> Edge.answersPoints(LevelNetwork::heightOf));
        Edge.says("Returns the height", () -> {
            heights(adjusted("level u 0;point a 9999999;point b;line a b u 40000 0 1 1;", 9), 999999900, 1003999900);
            heights(adjusted("level u 0;point a 0;point b;line a b u 0 40000 1 1;", 9), 0, -4000000);
        });
        Edge.says("Long.MIN_VALUE if it has none.", () -> {
            LevelNetwork x = Check.network("level u 0;point a 0;point b;point c;line b c u 0 0 1 1;");
            heights(x, Edge.NO_HEIGHT, Edge.NO_HEIGHT, Edge.NO_HEIGHT);
            x.adjust(1);
            heights(x, 0, Edge.NO_HEIGHT, Edge.NO_HEIGHT);
            x.undo();
            heights(x, Edge.NO_HEIGHT, Edge.NO_HEIGHT, Edge.NO_HEIGHT);
        });
        Edge.says("Throws IndexOutOfBoundsException if point is not a valid index", () -> {
            Edge.refusesPoints(LevelNetwork::heightOf);
            Edge.refusesPoints((x, point) -> {
                x.adjust(1);
                return x.heightOf(point);
            });
        });
    }

    // ---- promise 48

    private static void residuals() {
        Edge.under("Promise 48: residual");
        Edge.says("Returns the residual of a line: the adjusted height of its second point minus that of its first one minus its"
                + " rise.", () -> {
            LevelNetwork x = adjusted("level u 0;point a 1;point b 5;line a b u 1 0 1 1;line b a u 9 0 1 1;", 1);
            Check.due("a to b", x.residual(0), 400 - 100);
            Check.due("b to a", x.residual(1), -400 - 900);
            x = adjusted(BETWEEN, 1);
            Check.due("line 0", x.residual(0), 5000);
            Check.due("line 1", x.residual(1), 2500);
            Check.due("line 2", x.residual(2), 2500);
        });
        Edge.says("line: index of a line", () -> Edge.answersLines(LevelNetwork::residual));
        Edge.says("Returns the residual", () -> {
            LevelNetwork x = adjusted("level u 0;point a 0;point b 9999999;line a b u 0 40000 1 1;line b a u 40000 0 1 1;"
                    + "line a b u 0 0 1 1;", 1);
            Check.due("greatest", x.residual(0), 999999900 + 4000000);
            Check.due("least", x.residual(1), -999999900 - 4000000);
            Check.due("of a line that agrees", adjusted("level u 0;point a 0;point b;line a b u 9 0 1 1;", 1).residual(0), 0);
        });
        Edge.says("Long.MIN_VALUE if the line is not active", () -> {
            LevelNetwork x = Check.network("level u 0;point a 0;point b 0;line a b u 9 0 1 1;line a b u 9 0 1 1;");
            x.setActive(0, false);
            x.adjust(1);
            Check.due("not active", x.residual(0), Edge.NO_HEIGHT);
            Check.due("active", x.residual(1), -900);
        });
        Edge.says("or one of both points has no adjusted height.", () -> {
            LevelNetwork x = Check.network("level u 0;point a 0;point b;point c;line a b u 9 0 1 1;line b c u 9 0 1 1;");
            Check.due("not adjusted", x.residual(0), Edge.NO_HEIGHT);
            x.release(0);
            x.adjust(1);
            Check.due("nothing is held", x.residual(1), Edge.NO_HEIGHT);
            x.hold(0, 0);
            x.setActive(0, false);
            x.adjust(1);
            Check.due("b and c have none", x.residual(1), Edge.NO_HEIGHT);
            x.setActive(0, true);
            x.adjust(1);
            Check.due("both have one", x.residual(1), 0);
            x.hold(0, 0);
            Check.due("removed", x.residual(1), Edge.NO_HEIGHT);
        });
        Edge.says("Throws IndexOutOfBoundsException if line is not a valid index", () -> {
            Edge.refusesLines(LevelNetwork::residual);
            Edge.refusesLines((x, line) -> {
                x.adjust(1);
                return x.residual(line);
            });
        });
    }

    // ---- promise 49

    /** Lines from a to b, both held at 0, each with the setup that is told; after a round. */
    private static LevelNetwork misfits(String... setups) {
        StringBuilder text = new StringBuilder("level u 1;point a 0;point b 0;");
        for (String setup : setups) {
            text.append("line a b u ").append(setup).append(';');
        }
        return adjusted(text.toString(), 1);
    }

    private static void worstLines() {
        Edge.under("Promise 49: worstLine");
        Edge.says("Returns the line with the greatest residual, without the sign, for its length: 1000 times the residual divided"
                + " by the length, rounded down.", () -> {
            Check.due("800 of 2 and 900 of 2", misfits("8 0 1 1", "9 0 1 1").worstLine(), 1);
            Check.due("-800 of 2 and 900 of 2", misfits("0 8 1 1", "9 0 1 1").worstLine(), 1);
            Check.due("-900 of 2 and 800 of 2", misfits("8 0 1 1", "0 9 1 1").worstLine(), 1);
            Check.due("900 of 4 and 500 of 2", misfits("9 0 2 2", "5 0 1 1").worstLine(), 1);
            // 2 of 198 is 10 and a rest; 2 of 182 is nearly 11; 2 of 180 is 11.
            Check.due("10 and 10", misfits("0 0 100 98", "0 0 92 90").worstLine(), 0);
            Check.due("10 and 11", misfits("0 0 100 98", "0 0 91 89").worstLine(), 1);
            Check.due("10 and 10, below 0", misfits("0 0 100 98", "0 0 98 100").worstLine(), 0);
            // 4 of 80 is 50, 5 of 99 is 50 and a rest.
            Check.due("50 and 50", misfits("0 0 42 38", "0 0 52 47").worstLine(), 0);
            // Greater than 32 bits hold: 1000 times 1003999900.
            LevelNetwork x = adjusted("level u 0;point a 0;point b 9999999;line a b u 0 0 1 1;line a b u 0 40000 1 1;"
                    + "line a b u 0 0 100 100;", 1);
            Check.due("great residuals", x.worstLine(), 1);
        });
        Edge.says("Ties are broken by lower index.", () -> {
            Check.due("all alike", misfits("9 0 1 1", "0 9 1 1", "9 0 1 1").worstLine(), 0);
            Check.due("the last two alike", misfits("8 0 1 1", "0 9 1 1", "9 0 1 1").worstLine(), 1);
            Check.due("alike when rounded down", misfits("0 0 100 98", "0 0 99 97", "0 0 92 90").worstLine(), 0);
            Check.due("residuals of 0", misfits("0 0 1 1", "0 0 1 1").worstLine(), 0);
        });
        Edge.says("Returns the index of the line", () -> {
            LevelNetwork x = Edge.sized(1, 2, 20, 0);
            x.hold(0, 0);
            x.setReading(19, 0, 0, 9);
            x.adjust(1);
            Check.due("the last one", x.worstLine(), 19);
        });
        Edge.says("NOT_FOUND if no line has a residual.", () -> {
            Check.due("a new object", new LevelNetwork().worstLine(), Edge.NOT_FOUND);
            Check.due("not adjusted", Check.network(BETWEEN).worstLine(), Edge.NOT_FOUND);
            Check.due("no lines", adjusted("point a 0;", 1).worstLine(), Edge.NOT_FOUND);
            Check.due("no heights", adjusted("level u 0;point a;point b;line a b u 9 0 1 1;", 1).worstLine(), Edge.NOT_FOUND);
            LevelNetwork x = Check.network("level u 0;point a 0;point b 0;line a b u 9 0 1 1;line a b u 0 0 1 1;");
            x.setActive(0, false);
            x.adjust(1);
            Check.due("the one that is active", x.worstLine(), 1);
            x.setActive(1, false);
            x.adjust(1);
            Check.due("none is active", x.worstLine(), Edge.NOT_FOUND);
        });
    }

    // ---- promise 50

    private static void mostMoved() {
        // b is moved by half of what line 1 gives, d by half of what line 3 gives.
        String text = "level u 0;point a 0;point b;point c 0;point d;line a b u 0 0 1 1;line c b u %s 1 1;line a d u 0 0 1 1;"
                + "line c d u %s 1 1;";
        Edge.under("Promise 50: mostMoved");
        Edge.says("Returns the point whose adjusted height differs most from its provisional one.", () -> {
            Check.due("200 and 300", adjusted(String.format(text, "4 0", "6 0"), 1).mostMoved(), 3);
            Check.due("300 and 200", adjusted(String.format(text, "6 0", "4 0"), 1).mostMoved(), 1);
            Check.due("200 and -300", adjusted(String.format(text, "4 0", "0 6"), 1).mostMoved(), 3);
            Check.due("-200 and 300", adjusted(String.format(text, "0 4", "6 0"), 1).mostMoved(), 3);
            Check.due("-300 and 200", adjusted(String.format(text, "0 6", "4 0"), 1).mostMoved(), 1);
            // b lies high, and d low, but d is moved more.
            Check.due("200 and 300 at other heights", adjusted("level u 0;point a 0;point b;point c 0;point d;line a b u 4000 0 1 1;"
                    + "line c b u 4004 0 1 1;line a d u 0 2 1 1;line c d u 4 0 1 1;", 1).mostMoved(), 3);
        });
        Edge.says("Ties are broken by lower index.", () -> {
            Check.due("alike", adjusted(String.format(text, "4 0", "4 0"), 1).mostMoved(), 1);
            Check.due("alike without the sign", adjusted(String.format(text, "4 0", "0 4"), 1).mostMoved(), 1);
            Check.due("none is moved", adjusted(String.format(text, "0 0", "0 0"), 1).mostMoved(), 0);
        });
        Edge.says("Returns the index of the point", () -> {
            LevelNetwork x = Check.network("level u 0;" + Edge.points(16) + "line a p u 0 0 1 1;line a p u 4 0 1 1;");
            x.hold(0, 0);
            x.adjust(1);
            Check.due("the last one", x.mostMoved(), 15);
        });
        Edge.says("NOT_FOUND if there are no adjusted heights", () -> {
            Check.due("a new object", new LevelNetwork().mostMoved(), Edge.NOT_FOUND);
            Check.due("not adjusted", Check.network(BETWEEN).mostMoved(), Edge.NOT_FOUND);
            LevelNetwork x = adjusted(BETWEEN, 1);
            x.setSetting(LevelNetwork.SIGHT, 60);
            Check.due("removed", x.mostMoved(), Edge.NOT_FOUND);
        });
        Edge.says("or no point has one.", () -> {
            Check.due("no points", adjusted("", 1).mostMoved(), Edge.NOT_FOUND);
            Check.due("no heights", adjusted("level u 0;point a;point b;line a b u 9 0 1 1;", 1).mostMoved(), Edge.NOT_FOUND);
            Check.due("only b has one", adjusted("point a;point b 0;", 1).mostMoved(), 1);
        });
    }

    // ---- promises 51 to 53

    private static void sums() {
        Edge.under("Promise 51: residualSum");
        Edge.says("Returns the sum of the residuals, without the signs, each times the weight of its line.", () -> {
            // 900 with 500000, -800 with 500000, -3 with 142857
            Check.due("three lines", misfits("0 9 1 1", "8 0 1 1", "0 0 2 5").residualSum(), 1700L * 500000 + 3 * 142857);
        });
        Edge.says("Returns the sum over all lines that have a residual.", () -> {
            Check.due("a new object", new LevelNetwork().residualSum(), 0);
            Check.due("not adjusted", Check.network(BETWEEN).residualSum(), 0);
            Check.due("no heights", adjusted("level u 0;point a;point b;line a b u 9 0 1 1;", 1).residualSum(), 0);
            LevelNetwork x = Check.network("level u 0;point a 0;point b 0;line a b u 9 0 1 1;line a b u 1 0 1 1;");
            x.setActive(0, false);
            x.adjust(1);
            Check.due("one is not active", x.residualSum(), 100 * 500000);
            x = Check.network("level u 0;point a 0;point b 0;line a b u 9 0 1 2;line a b u 1 0 1 1;");
            Check.due("none, not adjusted, with the weight 333333", x.residualSum(), 0);
            x.setActive(0, false);
            x.adjust(1);
            Check.due("not active, with the weight 333333", x.residualSum(), 100 * 500000);
            x = Check.network("level u 0;point a 0;point b 9999999;" + "line b a u 40000 0 1 1;".repeat(20));
            x.adjust(1);
            Check.due("greatest", x.residualSum(), 1003999900L * 500000 * 20);
        });

        Edge.under("Promise 52: redundancy");
        Edge.says("Returns the redundancy: the number of active lines both of whose points have provisional heights, minus the"
                + " number of points with provisional heights that are not held.", () -> {
            LevelNetwork x = Check.network(BETWEEN);
            Check.due("three lines, two points", x.redundancy(), 1);
            x.setActive(1, false);
            Check.due("two lines, two points", x.redundancy(), 0);
            x.setActive(1, true);
            x.release(3);
            Check.due("three lines, three points", x.redundancy(), 0);
            x.release(0);
            Check.due("no heights", x.redundancy(), 0);
            x = Check.network("level u 0;point a 0;point b;point c;point d;line a b u 0 0 1 1;line c d u 0 0 1 1;"
                    + "line d c u 0 0 1 1;line b a u 0 0 1 1;");
            Check.due("lines of c and d do not count", x.redundancy(), 1);
        });
        Edge.says("Returns the difference.", () -> {
            Check.due("a new object", new LevelNetwork().redundancy(), 0);
            Check.due("a held point alone", Check.network("point a 0;").redundancy(), 0);
            Check.due("the first point is not held", Check.network("level u 0;point a;point b 0;" + "line a b u 0 0 1 1;".repeat(3))
                    .redundancy(), 2);
            LevelNetwork x = Check.network("level u 0;" + Edge.chain(16, "0 0 1 1") + "line p a u 0 0 1 1;");
            x.hold(0, 0);
            Check.due("a ring of sixteen points", x.redundancy(), 1);
            x.hold(15, 0);
            Check.due("the last point is held", x.redundancy(), 2);
            Check.load(x, "point a;point b;");
            Check.due("no points of the network before", x.redundancy(), 0);
            x = Edge.sized(1, 2, 20, 0);
            x.hold(0, 0);
            Check.due("twenty lines, one point", x.redundancy(), 19);
            x.hold(1, 0);
            Check.due("twenty lines, no point", x.redundancy(), 20);
        });

        Edge.under("Promise 53: totalLength");
        Edge.says("Returns the sum of the lengths of all active lines.", () -> {
            LevelNetwork x = Check.network("level u 0;point a;point b;line a b u 0 0 1 2;line a b u 0 0 10 20 0 0 40 50;");
            Check.due("both", x.totalLength(), 123);
            x.setActive(1, false);
            Check.due("one is not active", x.totalLength(), 3);
            x.setActive(0, false);
            Check.due("none is active", x.totalLength(), 0);
        });
        Edge.says("Returns the length in metres.", () -> {
            Check.due("a new object", new LevelNetwork().totalLength(), 0);
            Check.due("least", Edge.sized(1, 2, 1, 0).totalLength(), 2);
            LevelNetwork x = Check.network("level u 0;point a;point b;" + "line a b u 0 0 100 100;".repeat(20));
            for (int k = 0; k < 20 * 7; k++) {
                x.addSetup(k % 20, 0, 0, 100, 100);
            }
            Check.due("greatest", x.totalLength(), 20 * 1600);
        });
    }
}
