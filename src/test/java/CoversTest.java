/** Promises 11 to 13: knot, nearest, would. */
public final class CoversTest {
    private static final int NONE = CoverOrder.NONE;

    private CoversTest() {
    }

    public static void main(String[] args) {
        chain();
        diamond();
        loops();
        notReached();
        order();
        half();
        nearest();
        wouldInsert();
        wouldDelete();
        Check.end("CoversTest");
    }

    /** What knot tells of the knots from 0 on. */
    private static void due(String text, int what, int... want) {
        CoverOrder x = Check.graph(text);
        for (int knot = 0; knot < want.length; knot++) {
            Check.due(text + ": knot(" + knot + ", " + what + ")", x.knot(knot, what), want[knot]);
        }
    }

    private static void chain() {
        String chain = "D4 23 12 01";
        due(chain, 0, 1, 1, 1, 1);
        due(chain, 1, NONE, 0, 1, 2);
        due(chain, 2, 0, 1, 2, 3);
        due(chain, 3, 0, 1, 2, 3);
        due(chain, 4, NONE, 0, 1, 2);
        due(chain, 5, 15, 14, 12, 8);
        due(chain, 6, 0, 0, 0, 0);
        due("D8 01 12 23 34 45 56 67", 2, 0, 1, 2, 3, 4, 5, 6, 7);
        due("D8 01 12 23 34 45 56 67", 5, 255, 254, 252, 248, 240, 224, 192, 128);
    }

    private static void diamond() {
        String diamond = "D5 01 02 13 23 34";
        due(diamond, 1, NONE, 0, 0, 0, 3);
        due(diamond, 2, 0, 1, 1, 1, 2);
        due(diamond, 3, 0, 1, 4, 2, 3);
        due(diamond, 4, NONE, 0, 0, 0, 3);
        due(diamond, 5, 31, 2, 4, 24, 16);
        due(diamond, 6, 0, 8, 8, 0, 0);
        // An edge past the diamond takes its end away from 3.
        due("D5 01 02 13 23 34 24", 1, NONE, 0, 0, 0, 0);
        due("D5 01 02 13 23 34 24", 6, 0, 8, 24, 16, 0);
    }

    private static void loops() {
        due("D3 01 12 20", 1, NONE, 0, 1);
        due("D3 01 12 20", 6, 1, 1, 1);
        due("D3 01 12 21", 6, 0, 2, 2);
        due("D3 01 12 21", 5, 7, 6, 4);
        due("D4 01 12 23 31 30", 6, 1, 3, 3, 3);
        // Out of 1 by an edge of its own and by one of 2.
        due("D3 01 12 20 10", 6, 1, 1, 1);
        due("D4 01 12 21 13", 1, NONE, 0, 1, 1);
    }

    private static void notReached() {
        String text = "D5 01 23 32 31 34";
        due(text, 0, 1, 1, 0, 0, 0);
        due(text, 1, NONE, 0, NONE, NONE, NONE);
        due(text, 2, 0, 1, NONE, NONE, NONE);
        due(text, 3, 0, 1, NONE, NONE, NONE);
        due(text, 4, NONE, 0, NONE, NONE, NONE);
        due(text, 5, 3, 2, 0, 0, 0);
        due(text, 6, 0, 0, 0, 0, 0);
    }

    private static void order() {
        due("D5 02 01 23 14 34", 3, 0, 4, 1, 2, 3);
        due("D5 01 02 23 14 34", 3, 0, 1, 3, 4, 2);
        due("D6 01 03 12 24 21 25 35", 3, 0, 1, 2, 5, 3, 4);
        CoverOrder x = Check.graph("D3 01 02");
        Check.due("knot(1, 3) come first", x.knot(1, 3), 1);
        x.delete(0, 1);
        x.insert(0, 1);
        Check.due("knot(1, 3) come last", x.knot(1, 3), 2);
        Check.due("knot(2, 3) come first", x.knot(2, 3), 1);
        x.undo();
        x.undo();
        Check.due("knot(1, 3) as it was", x.knot(1, 3), 1);
    }

    private static void half() {
        due("D5 02 01 23 14 34", 4, NONE, 0, 0, 2, 0);
        // The lid is further up than the half.
        due("D5 01 12 23 34 03 24", 4, NONE, 0, 1, 0, 2);
        due("D5 01 12 23 34 03 24", 1, NONE, 0, 1, 0, 0);
        // By 3 and 4, which come later than 2.
        due("D5 01 12 03 34 42", 4, NONE, 0, 0, 0, 3);
        // 2 comes ahead of 3: no way through it.
        due("D5 01 12 23 13 04 42", 4, NONE, 0, 0, 1, 0);
        // Of least order, not the least knot.
        due("D5 04 41 12 23 43 13", 4, NONE, 4, 1, 4, 0);
        due("D3 01 12 20", 4, NONE, 0, 1);
        // Back to itself through what comes later.
        due("D4 01 12 23 31", 4, NONE, 0, 1, 2);
    }

    private static void nearest() {
        CoverOrder x = Check.graph("D8 01 02 13 14 25 46 74");
        int[][] due = {{3, 6, 1}, {6, 4, 4}, {4, 6, 4}, {6, 5, 0}, {6, 6, 6}, {0, 3, 0}, {3, 4, 1},
            {2, 5, 2}, {0, 0, 0}, {1, 2, 0}, {6, 1, 1}};
        for (int[] d : due) {
            Check.due("nearest(" + d[0] + ", " + d[1] + ")", x.nearest(d[0], d[1]), d[2]);
        }
        Check.due("nearest(7, 0)", x.nearest(7, 0), CoverOrder.STATE);
        Check.due("nearest(0, 7)", x.nearest(0, 7), CoverOrder.STATE);
        Check.due("nearest(7, 7)", x.nearest(7, 7), CoverOrder.STATE);
        Check.due("nearest(7, 8)", x.nearest(7, 8), CoverOrder.UNKNOWN);
        Check.due("nearest(8, 7)", x.nearest(8, 7), CoverOrder.UNKNOWN);
        Check.due("nearest(-1, 0)", x.nearest(-1, 0), CoverOrder.UNKNOWN);
        Check.due("nearest(0, -1)", x.nearest(0, -1), CoverOrder.UNKNOWN);
    }

    private static void would(String text, int... want) {
        CoverOrder x = Check.graph(text);
        for (int i = 0; i < want.length; i += 3) {
            Check.due(text + ": would(" + want[i] + ", " + want[i + 1] + ")",
                    x.would(want[i], want[i + 1]), want[i + 2]);
        }
    }

    private static void wouldInsert() {
        would("D4 01 12 23", 0, 2, 4, 0, 3, 8, 1, 3, 8, 3, 0, 0, 2, 1, 0, 3, 1, 0);
        would("D5 01 23 24", 1, 2, 28, 1, 3, 8, 0, 4, 16, 2, 1, 0, 2, 0, 0, 3, 4, 0);
        would("D6 01 12 23 34 45 24", 0, 4, 16, 1, 5, 32, 1, 3, 24);
        // 3 gets another lid as 2 is reached.
        would("D4 01 13 23", 0, 2, 12, 1, 2, 4);
    }

    private static void wouldDelete() {
        would("D4 01 12 23", 0, 1, 14, 1, 2, 12, 2, 3, 8);
        would("D5 01 02 13 23 34", 0, 1, 10, 1, 3, 8, 2, 3, 8, 3, 4, 16, 0, 2, 12);
        would("D4 01 12 21 20 03 30", 2, 1, 0, 2, 0, 0, 0, 3, 8, 3, 0, 0);
        CoverOrder x = Check.graph("D3 01 12");
        x.would(0, 1);
        x.would(0, 2);
        Check.dueRow("after would", x, "01:1 12:2");
        Check.due("count(6) after would", x.count(6), 3);
        Check.due("count(8) after would", x.count(8), 0);
        Check.due("knot(2, 1) after would", x.knot(2, 1), 1);
    }
}
