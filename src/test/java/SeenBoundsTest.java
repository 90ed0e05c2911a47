/** SEEN and MISSING of the terms, promises 17 to 19: each boundary. */
public final class SeenBoundsTest {
    private static final int NONE = CoverOrder.NONE;

    private SeenBoundsTest() {
    }

    public static void main(String[] args) {
        Check.sentence("SEEN: that a KNOT v had LID u (1)", SeenBoundsTest::had);
        Check.sentence("or had not (0)", SeenBoundsTest::hadNot);
        Check.sentence("when there was one EDGE more than there is", SeenBoundsTest::oneMore);
        Check.sentence("6 such at most", SeenBoundsTest::sixAtMost);
        Check.sentence("none at first", SeenBoundsTest::noneAtFirst);
        Check.sentence("17: v, u (0 to 7), had (0, 1)", SeenBoundsTest::firstAndLast);
        Check.sentence("18: Nothing is SEEN: how much there was", SeenBoundsTest::unsee);
        Check.sentence("MISSING: EDGES that are not there", SeenBoundsTest::notThere);
        Check.sentence("by which all that is SEEN is so", SeenBoundsTest::allThatIsSeen);
        Check.sentence("how many", SeenBoundsTest::howMany);
        Check.sentence("the first (10 times from, and to, the least number)",
                SeenBoundsTest::leastNumber);
        Check.sentence("NONE", SeenBoundsTest::none);
        Check.sentence("19: FULL: there are 24 EDGES", SeenBoundsTest::full);
        Check.sentence("(0 to 7), whatever n is", SeenBoundsTest::whateverN);
        Check.sentence("In what follows nothing is changed", SeenBoundsTest::nothingChanged);
        Check.end("SeenBoundsTest");
    }

    private static void due(String text, int[][] seen, int howMany, int first) {
        CoverOrder x = Check.graph(text);
        StringBuilder told = new StringBuilder(text).append(" seen");
        for (int[] s : seen) {
            Check.due("see", x.see(s[0], s[1], s[2]) > 0 ? 1 : 0, 1);
            told.append(' ').append(s[0]).append(s[1]).append(s[2]);
        }
        Check.due(told + ": missing(0)", x.missing(0), howMany);
        Check.due(told + ": missing(1)", x.missing(1), first);
    }

    private static void had() {
        due("D3 01", new int[][] {{2, 1, 1}}, 1, 12);
        due("D3 01", new int[][] {{2, 0, 1}}, 1, 2);
        due("D3 01", new int[][] {{1, 0, 1}}, 5, 2);
        // Not the root, and none is its own lid.
        due("D3 01", new int[][] {{0, 0, 1}}, 0, NONE);
        due("D3 01", new int[][] {{0, 1, 1}}, 0, NONE);
        due("D3 01", new int[][] {{1, 1, 1}}, 0, NONE);
        due("D8", new int[][] {{7, 0, 1}}, 1, 7);
    }

    private static void hadNot() {
        due("D3 01", new int[][] {{2, 1, 0}}, 4, 2);
        due("D3 01", new int[][] {{2, 0, 0}}, 4, 10);
        due("D3 01", new int[][] {{1, 0, 0}}, 0, NONE);
        // What is not reached had no lid, and the root has none.
        due("D3 01", new int[][] {{0, 0, 0}}, 5, 2);
        due("D3 01", new int[][] {{2, 2, 0}}, 5, 2);
        due("D8", new int[][] {{7, 0, 0}}, 55, 1);
    }

    /** Not as it is now, but with the edge. */
    private static void oneMore() {
        due("D4 01 12 23", new int[][] {{3, 2, 0}}, 2, 3);
        due("D4 01 12 23", new int[][] {{3, 2, 1}}, 7, 2);
        due("D4 01 12 23", new int[][] {{2, 0, 1}}, 1, 2);
    }

    private static void sixAtMost() {
        CoverOrder x = Check.graph("D3 01");
        for (int i = 1; i <= 6; i++) {
            Check.due("see " + i, x.see(2, 1, 1), i);
            Check.due("count(9)", x.count(9), i);
        }
        Check.due("see 7", x.see(2, 1, 1), CoverOrder.FULL);
        Check.due("count(9) of six", x.count(9), 6);
        Check.due("unsee()", x.unsee(), 6);
        Check.due("see after unsee", x.see(2, 1, 1), 1);
    }

    private static void noneAtFirst() {
        CoverOrder x = new CoverOrder();
        Check.due("count(9)", x.count(9), 0);
        Check.due("unsee()", x.unsee(), 0);
        Check.due("missing(0) of nothing seen", Check.graph("D3 01").missing(0), 5);
    }

    private static void firstAndLast() {
        for (int had = 0; had <= 1; had++) {
            CoverOrder x = new CoverOrder();
            Check.due("see(0, 0, " + had + ")", x.see(0, 0, had), 1);
            Check.due("see(7, 0, " + had + ")", x.see(7, 0, had), 2);
            Check.due("see(0, 7, " + had + ")", x.see(0, 7, had), 3);
            Check.due("see(7, 7, " + had + ")", x.see(7, 7, had), 4);
            Check.due("see(8, 0, " + had + ")", x.see(8, 0, had), CoverOrder.OUTSIDE);
            Check.due("see(0, 8, " + had + ")", x.see(0, 8, had), CoverOrder.OUTSIDE);
            Check.due("see(-1, 0, " + had + ")", x.see(-1, 0, had), CoverOrder.OUTSIDE);
            Check.due("see(0, -1, " + had + ")", x.see(0, -1, had), CoverOrder.OUTSIDE);
        }
        Check.due("see(0, 0, -1)", new CoverOrder().see(0, 0, -1), CoverOrder.OUTSIDE);
        Check.due("see(0, 0, 2)", new CoverOrder().see(0, 0, 2), CoverOrder.OUTSIDE);
    }

    private static void unsee() {
        for (int seen = 0; seen <= 6; seen++) {
            CoverOrder x = Check.graph("D3 01");
            for (int i = 0; i < seen; i++) {
                x.see(1, 0, 0);
            }
            Check.due("unsee() of " + seen, x.unsee(), seen);
            Check.due("count(9)", x.count(9), 0);
            Check.due("missing(0)", x.missing(0), 5);
            Check.due("unsee() again", x.unsee(), 0);
        }
        Twin.asked("unsee() and the same seen", SeenBoundsTest::worn, x -> {
            x.unsee();
            x.see(3, 0, 1);
            x.see(4, 3, 0);
        });
    }

    private static void notThere() {
        due("D1", new int[][] {}, 0, NONE);
        due("D2", new int[][] {}, 2, 1);
        due("D2 01", new int[][] {}, 1, 10);
        due("D2 01 10", new int[][] {}, 0, NONE);
        due("D8", new int[][] {}, 56, 1);
        due("D8 01", new int[][] {}, 55, 2);
        due("D5 01020304 10121314 20212324 30313234 40414243", new int[][] {}, 0, NONE);
        // Only 01 would do, and it is there.
        due("D2 01", new int[][] {{1, 0, 1}}, 1, 10);
    }

    private static void allThatIsSeen() {
        due("D4 01", new int[][] {{2, 1, 1}, {2, 0, 0}}, 1, 12);
        due("D4 01", new int[][] {{2, 1, 1}, {2, 0, 1}}, 0, NONE);
        due("D4 01", new int[][] {{2, 1, 1}, {2, 1, 0}}, 0, NONE);
        due("D4 01", new int[][] {{2, 1, 1}, {2, 1, 1}}, 1, 12);
        // The last of six alone shuts it all out, then the first alone.
        due("D4 01", new int[][] {{1, 0, 1}, {2, 0, 0}, {3, 0, 0}, {3, 1, 0}, {2, 3, 0}, {2, 1, 1}},
                1, 12);
        due("D4 01", new int[][] {{1, 0, 1}, {2, 0, 0}, {3, 0, 0}, {3, 1, 0}, {2, 3, 0}, {1, 0, 0}},
                0, NONE);
        due("D4 01", new int[][] {{1, 0, 0}, {1, 2, 0}, {2, 0, 0}, {3, 0, 0}, {3, 1, 0}, {2, 3, 0}},
                0, NONE);
    }

    private static void howMany() {
        due(Check.FULL.substring(0, Check.FULL.length() - 2), new int[][] {}, 33, 32);
        due("D8 01 12", new int[][] {{7, 2, 1}}, 1, 27);
        due("D8 01 12 23", new int[][] {{3, 2, 1}, {2, 1, 1}}, 50, 4);
    }

    private static void leastNumber() {
        due("D4 12 23 31", new int[][] {{1, 0, 1}, {2, 1, 1}}, 1, 1);
        due("D4 12 23 31", new int[][] {{1, 0, 0}}, 8, 2);
        due("D4 01 02 03", new int[][] {}, 9, 10);
        // All but 02 and 03.
        due("D4 01 12", new int[][] {{3, 0, 0}, {2, 1, 1}}, 8, 10);
        due("D4 01 12", new int[][] {{3, 0, 0}, {3, 1, 1}}, 1, 13);
        due("D8 07", new int[][] {{6, 7, 1}}, 1, 76);
    }

    private static void none() {
        CoverOrder x = Check.graph("D2 01 10");
        Check.due("missing(0) of none", x.missing(0), 0);
        Check.due("missing(1) of none", x.missing(1), NONE);
        Check.due("missing(1) of one knot", new CoverOrder().missing(1), NONE);
        Check.due("missing(-1)", x.missing(-1), CoverOrder.OUTSIDE);
        Check.due("missing(2)", x.missing(2), CoverOrder.OUTSIDE);
    }

    private static void full() {
        CoverOrder x = Check.graph(Check.FULL.substring(0, Check.FULL.length() - 2));
        Check.due("missing(0) of 23", x.missing(0), 33);
        x.insert(7, 6);
        Check.due("missing(0) of 24", x.missing(0), CoverOrder.FULL);
        Check.due("missing(1) of 24", x.missing(1), CoverOrder.FULL);
        x.undo();
        Check.due("missing(1) of 23 again", x.missing(1), 32);
    }

    private static void whateverN() {
        due("D1", new int[][] {{7, 7, 0}}, 0, NONE);
        due("D2", new int[][] {{7, 0, 0}, {1, 7, 0}}, 2, 1);
        due("D2", new int[][] {{2, 0, 1}}, 0, NONE);
        due("D2", new int[][] {{1, 2, 1}}, 0, NONE);
        CoverOrder x = new CoverOrder();
        Check.due("see(7, 0, 1) of one knot", x.see(7, 0, 1), 1);
        Check.regraph(x, "D8 01");
        Check.due("missing(1) when there are eight", x.missing(1), 7);
    }

    private static void worn(CoverOrder x) {
        Check.regraphed(x, "D5 01 02 13 23 34 43");
        x.keep(0);
        x.delete(0, 2);
        x.insert(0, 2);
        x.see(3, 0, 1);
        x.see(4, 3, 0);
        x.seed(9);
    }

    private static void nothingChanged() {
        Twin.asked("missing(0)", SeenBoundsTest::worn, x -> x.missing(0));
        Twin.asked("missing(1)", SeenBoundsTest::worn, x -> x.missing(1));
    }
}
