/** REACHED to RIM and WOULD of the terms, promises 11 to 13: each boundary. */
public final class CoversBoundsTest {
    private static final int NONE = CoverOrder.NONE;

    private CoversBoundsTest() {
    }

    public static void main(String[] args) {
        Check.sentence("REACHED are THE ROOT", CoversBoundsTest::rootIsReached);
        Check.sentence("and KNOTS to which EDGES lead from such as are REACHED",
                CoversBoundsTest::reached);
        Check.sentence("A KNOT d COVERS v (both REACHED)", CoversBoundsTest::bothReached);
        Check.sentence("if each way by EDGES from THE ROOT to v goes through d",
                CoversBoundsTest::eachWay);
        Check.sentence("(v itself does, THE ROOT does)", CoversBoundsTest::itselfAndRoot);
        Check.sentence("LID of v (REACHED, not THE ROOT)", CoversBoundsTest::lidOfWhat);
        Check.sentence("which COVERS it, other than it, and is COVERED by all others that do",
                CoversBoundsTest::lid);
        Check.sentence("DEPTH: how many COVER it, other than it", CoversBoundsTest::depth);
        Check.sentence("NEAREST of two: the deepest that COVERS both", CoversBoundsTest::nearest);
        Check.sentence("THE WALK begins at THE ROOT", CoversBoundsTest::walkBegins);
        Check.sentence("one goes on by EDGES in their row", CoversBoundsTest::walkByRow);
        Check.sentence("to KNOTS that have no ORDER yet", CoversBoundsTest::noOrderYet);
        Check.sentence("each to its end ahead of the next EDGE", CoversBoundsTest::toItsEnd);
        Check.sentence("HALF of v (REACHED, not THE ROOT)", CoversBoundsTest::halfOfWhat);
        Check.sentence("the KNOT of the least ORDER", CoversBoundsTest::halfOfLeastOrder);
        Check.sentence("all others than it and v have greater ORDERS than v",
                CoversBoundsTest::greaterOrders);
        Check.sentence("RIM of v (REACHED)", CoversBoundsTest::rimOfReached);
        Check.sentence("an EDGE from a KNOT that v COVERS, and that v does not COVER",
                CoversBoundsTest::rim);
        Check.sentence("or that are v", CoversBoundsTest::rimOfItself);
        Check.sentence("WOULD an EDGE that is not there be INSERTED", CoversBoundsTest::wouldInsert);
        Check.sentence("or one that is there be DELETED", CoversBoundsTest::wouldDelete);
        Check.sentence("or have another LID", CoversBoundsTest::anotherLid);
        Check.sentence("13: FULL: it is not there, and there are 24", CoversBoundsTest::wouldOfMost);
        Check.sentence("11: what is 0 to 6", CoversBoundsTest::eachWhat);
        Check.sentence("In what follows nothing is changed", CoversBoundsTest::nothingChanged);
        Check.end("CoversBoundsTest");
    }

    /** What knot tells of the knots from 0 on. */
    private static void due(String text, int what, int... want) {
        CoverOrder x = Check.graph(text);
        for (int knot = 0; knot < want.length; knot++) {
            Check.due(text + ": knot(" + knot + ", " + what + ")", x.knot(knot, what), want[knot]);
        }
        Check.due(text + ": knots asked for", x.count(1), want.length);
    }

    private static void rootIsReached() {
        due("D1", 0, 1);
        due("D3", 0, 1, 0, 0);
        due("D3 10 20 12 21", 0, 1, 0, 0);
        due("D8", 0, 1, 0, 0, 0, 0, 0, 0, 0);
    }

    private static void reached() {
        due("D3 12 01", 0, 1, 1, 1);
        due("D3 12 02", 0, 1, 0, 1);
        due("D4 12 23 31", 0, 1, 0, 0, 0);
        due("D8 67 56 45 34 23 12 01", 0, 1, 1, 1, 1, 1, 1, 1, 1);
        due("D8 67 56 45 34 23 12", 0, 1, 0, 0, 0, 0, 0, 0, 0);
        due("D8 07", 0, 1, 0, 0, 0, 0, 0, 0, 1);
        Check.due("count(3) of the chain", Check.graph(Check.CHAIN).count(3), 8);
        Check.due("count(3) of no edges", Check.graph("D8").count(3), 1);
    }

    private static void bothReached() {
        due("D3 12", 5, 1, 0, 0);
        due("D3 01 21", 5, 3, 2, 0);
        due("D8 10 20 30 71", 5, 1, 0, 0, 0, 0, 0, 0, 0);
        // The way from 2, which is not reached, takes no cover away.
        due("D4 01 13 23", 5, 11, 10, 0, 8);
    }

    private static void eachWay() {
        due("D4 01 12 23", 5, 15, 14, 12, 8);
        due("D4 01 12 23 13", 5, 15, 14, 4, 8);
        due("D4 01 12 23 03", 5, 15, 6, 4, 8);
        due("D4 01 12 23 31 32 30", 5, 15, 14, 12, 8);
        due("D3 01 02 12 21", 5, 7, 2, 4);
    }

    private static void itselfAndRoot() {
        due("D1", 5, 1);
        due("D8", 5, 1, 0, 0, 0, 0, 0, 0, 0);
        due(Check.CHAIN, 5, 255, 254, 252, 248, 240, 224, 192, 128);
        due("D8 01 02 03 04 05 06 07", 5, 255, 2, 4, 8, 16, 32, 64, 128);
    }

    private static void lidOfWhat() {
        due("D1", 1, NONE);
        due("D2 10", 1, NONE, NONE);
        due("D2 01 10", 1, NONE, 0);
        due("D4 01 12 20 32", 1, NONE, 0, 1, NONE);
        due("D8 07 76 65 54", 1, NONE, NONE, NONE, NONE, 5, 6, 7, 0);
    }

    private static void lid() {
        due(Check.CHAIN, 1, NONE, 0, 1, 2, 3, 4, 5, 6);
        due(Check.CHAIN + "07", 1, NONE, 0, 1, 2, 3, 4, 5, 0);
        due(Check.CHAIN + "57", 1, NONE, 0, 1, 2, 3, 4, 5, 5);
        due("D7 01 12 13 24 34 45 46 56", 1, NONE, 0, 1, 1, 1, 4, 4);
    }

    private static void depth() {
        due("D1", 2, 0);
        due("D2", 2, 0, NONE);
        due("D2 10", 2, 0, NONE);
        due(Check.CHAIN, 2, 0, 1, 2, 3, 4, 5, 6, 7);
        due(Check.CHAIN + "07", 2, 0, 1, 2, 3, 4, 5, 6, 1);
        due("D8 01 02 03 04 05 06 07", 2, 0, 1, 1, 1, 1, 1, 1, 1);
    }

    private static void nearest() {
        CoverOrder x = Check.graph(Check.CHAIN);
        for (int one = 0; one < 8; one++) {
            for (int other = 0; other < 8; other++) {
                Check.due("chain: nearest(" + one + ", " + other + ")", x.nearest(one, other),
                        Math.min(one, other));
            }
        }
        x = Check.graph("D8 01 12 13 24 25 36 07");
        Check.due("nearest of one and it", x.nearest(5, 5), 5);
        Check.due("nearest of the root and it", x.nearest(0, 0), 0);
        Check.due("nearest(4, 5)", x.nearest(4, 5), 2);
        Check.due("nearest(5, 6)", x.nearest(5, 6), 1);
        Check.due("nearest(6, 7)", x.nearest(6, 7), 0);
        Check.due("nearest(2, 4)", x.nearest(2, 4), 2);
        Check.due("nearest(4, 2)", x.nearest(4, 2), 2);
        Check.due("nearest of one knot", new CoverOrder().nearest(0, 0), 0);
    }

    private static void walkBegins() {
        due("D1", 3, 0);
        due("D3 12 21 10", 3, 0, NONE, NONE);
        due("D8 07", 3, 0, NONE, NONE, NONE, NONE, NONE, NONE, 1);
    }

    private static void walkByRow() {
        due("D4 01 02 03", 3, 0, 1, 2, 3);
        due("D4 03 02 01", 3, 0, 3, 2, 1);
        // The edges of the later knots stand first in the row.
        due("D8 67 56 45 34 23 12 01", 3, 0, 1, 2, 3, 4, 5, 6, 7);
        CoverOrder x = Check.graph("D3 01 02");
        x.delete(0, 1);
        x.insert(0, 1);
        Check.due("order of what came anew", x.knot(1, 3), 2);
        x.undo();
        x.undo();
        Check.due("order of what came back", x.knot(1, 3), 1);
    }

    private static void noOrderYet() {
        due("D3 01 10 12 20 21", 3, 0, 1, 2);
        due("D4 01 12 02 23 03", 3, 0, 1, 2, 3);
    }

    private static void toItsEnd() {
        due("D5 01 02 13 34", 3, 0, 1, 4, 2, 3);
        due("D5 01 02 13 34 42", 3, 0, 1, 4, 2, 3);
        due("D8 01 07 12 23 34 45 56", 3, 0, 1, 2, 3, 4, 5, 6, 7);
        due("D5 01 12 13 24 34", 3, 0, 1, 2, 4, 3);
    }

    private static void halfOfWhat() {
        due("D1", 4, NONE);
        due("D2 10", 4, NONE, NONE);
        due("D3 01 10 21", 4, NONE, 0, NONE);
        due(Check.CHAIN, 4, NONE, 0, 1, 2, 3, 4, 5, 6);
        due(Check.CHAIN + "70 71", 4, NONE, 0, 1, 2, 3, 4, 5, 6);
    }

    private static void halfOfLeastOrder() {
        // The half of 4 is 2, though one can go past 2: its lid is 0.
        due("D5 01 12 23 34 03 24", 4, NONE, 0, 1, 0, 2);
        due("D5 01 12 23 34 03 24", 1, NONE, 0, 1, 0, 0);
        due("D4 01 12 23 13", 4, NONE, 0, 1, 1);
        due("D4 01 12 23 13 03", 4, NONE, 0, 1, 0);
        // 2 has a lesser order than 1.
        due("D4 02 21 13 23", 4, NONE, 2, 0, 2);
        // A knot that is not reached has no order.
        due("D4 01 12 32", 4, NONE, 0, 1, NONE);
    }

    private static void greaterOrders() {
        // 0 to 3 to 2: 3 comes after 2.
        due("D4 01 12 23 03 32", 4, NONE, 0, 0, 0);
        // 1 to 4 to 3: 4 comes after 3, and 0 has no way to 3 but through 1.
        due("D5 01 12 23 14 43", 4, NONE, 0, 1, 1, 1);
        // 0 to 2 to 3: 2 comes ahead of 3.
        due("D4 01 12 23 02", 4, NONE, 0, 0, 2);
        // All the way from 0 by 7, 6, 5, 4, 3 to 2.
        due("D8 01 12 23 34 45 56 67 07 76 65 54 43 32", 4, NONE, 0, 0, 0, 0, 0, 0, 0);
        // By 4 to 3, but not by 4 and 3 to 5, which comes after 3.
        due("D6 01 12 23 35 04 43", 4, NONE, 0, 1, 0, 0, 3);
    }

    private static void rimOfReached() {
        due("D1", 6, 0);
        due("D2 10", 6, 0, 0);
        due("D4 01 23 21 20", 6, 0, 0, 0, 0);
        due("D8", 6, 0, 0, 0, 0, 0, 0, 0, 0);
    }

    private static void rim() {
        due(Check.CHAIN, 6, 0, 0, 0, 0, 0, 0, 0, 0);
        due("D4 01 02 13 23", 6, 0, 8, 8, 0);
        due("D5 01 02 13 23 14 34", 6, 0, 24, 8, 16, 0);
        // Out of what 1 covers, not out of 1.
        due("D5 01 13 02 34 24", 6, 0, 16, 16, 16, 0);
        // From 3, which is not reached, no edge counts.
        due("D4 01 02 31 32", 6, 0, 0, 0, 0);
    }

    private static void rimOfItself() {
        due("D2 01 10", 6, 1, 1);
        due("D3 01 12 21", 6, 0, 2, 2);
        due("D3 01 12 20", 6, 1, 1, 1);
        due(Check.CHAIN + "70", 6, 1, 1, 1, 1, 1, 1, 1, 1);
        due(Check.CHAIN + "76", 6, 0, 0, 0, 0, 0, 0, 64, 64);
        // An edge to 1 from what 1 does not cover puts it in no rim of its own.
        due("D3 01 02 21", 6, 0, 0, 2);
    }

    private static void would(String text, int... want) {
        CoverOrder x = Check.graph(text);
        for (int i = 0; i < want.length; i += 2) {
            int from = want[i] / 10;
            int to = want[i] % 10;
            Check.due(text + ": would(" + from + ", " + to + ")", x.would(from, to), want[i + 1]);
        }
    }

    private static void wouldInsert() {
        would("D2", 1, 2, 10, 0);
        would("D8", 1, 2, 7, 128, 70, 0, 76, 0);
        would("D8 12 23 34 45 56 67", 1, 254, 7, 128, 70, 0, 76, 0, 2, 252);
        would(Check.CHAIN, 70, 0, 71, 0, 10, 0, 7, 128, 57, 128);
    }

    private static void wouldDelete() {
        would(Check.CHAIN, 1, 254, 67, 128, 34, 240);
        would("D2 01 10", 10, 0, 1, 2);
        would("D4 01 12 31 32", 31, 0, 32, 0);
        would("D3 01 02 12 21", 12, 0, 21, 0, 1, 2, 2, 4);
    }

    private static void anotherLid() {
        would(Check.CHAIN, 2, 4, 3, 8, 7, 128);
        would(Check.CHAIN + "07", 67, 0, 7, 128);
        // Deeper by one, but with the same lid: 4 stays out.
        would("D5 01 12 02 23 34", 2, 4, 12, 0);
        // 3 is reached as before, but 2 is not, and 3 has 1 for its lid.
        would("D4 01 02 13 23", 2, 12, 23, 8, 1, 10);
    }

    private static void wouldOfMost() {
        CoverOrder x = Check.graph(Check.FULL);
        Check.due("would of one there, with 24", x.would(3, 2), 0);
        Check.due("would of the first, with 24", x.would(0, 1), 0);
        Check.due("would of one not there, with 24", x.would(3, 4), CoverOrder.FULL);
        x.delete(3, 2);
        Check.due("would of one not there, with 23", x.would(3, 4), 0);
        Check.due("would of the one that has gone, with 23", x.would(3, 2), 0);
    }

    private static void eachWhat() {
        CoverOrder x = Check.graph("D5 02 21 12 14 24 20");
        int[][] want = {{1, NONE, 0, 0, NONE, 23, 1}, {1, 2, 2, 2, 2, 2, 20}, {1, 0, 1, 1, 0, 22, 5},
            {0, NONE, NONE, NONE, NONE, 0, 0}, {1, 2, 2, 3, 2, 16, 0}};
        for (int knot = 0; knot < 5; knot++) {
            Check.due("knot(" + knot + ", -1)", x.knot(knot, -1), CoverOrder.OUTSIDE);
            for (int what = 0; what <= 6; what++) {
                Check.due("knot(" + knot + ", " + what + ")", x.knot(knot, what),
                        want[knot][what]);
            }
            Check.due("knot(" + knot + ", 7)", x.knot(knot, 7), CoverOrder.OUTSIDE);
        }
    }

    private static void worn(CoverOrder x) {
        Check.regraphed(x, "D5 01 02 13 23 34 43");
        x.keep(1);
        x.delete(0, 2);
        x.insert(0, 2);
        x.see(3, 0, 1);
        x.seed(9);
    }

    private static void nothingChanged() {
        for (int knot = 0; knot < 5; knot++) {
            for (int what = 0; what <= 6; what++) {
                int k = knot;
                int w = what;
                Twin.asked("knot(" + k + ", " + w + ")", CoversBoundsTest::worn, x -> x.knot(k, w));
            }
        }
        for (int pair : new int[] {1, 2, 13, 34, 3, 4, 10, 41}) {
            int from = pair / 10;
            int to = pair % 10;
            Twin.asked("nearest of " + pair, CoversBoundsTest::worn, x -> x.nearest(from, to));
            Twin.asked("would of " + pair, CoversBoundsTest::worn, x -> x.would(from, to));
            Twin.asked("stamp of " + pair, CoversBoundsTest::worn, x -> x.stamp(from, to));
        }
    }
}
