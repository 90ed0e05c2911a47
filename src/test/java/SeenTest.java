/** Promises 17 to 19: see, unsee, missing. */
public final class SeenTest {
    private static final int NONE = CoverOrder.NONE;

    private SeenTest() {
    }

    public static void main(String[] args) {
        see();
        unsee();
        missing();
        missingNotHad();
        missingOfNoKnot();
        missingStaysUnderEdits();
        Check.end("SeenTest");
    }

    private static void see() {
        CoverOrder x = new CoverOrder();
        int[][] outside = {{-1, 0, 0}, {8, 0, 0}, {0, -1, 0}, {0, 8, 0}, {0, 0, -1}, {0, 0, 2},
            {Integer.MIN_VALUE, 0, 0}, {0, Integer.MAX_VALUE, 1}, {0, 0, Integer.MIN_VALUE}};
        for (int[] s : outside) {
            Check.due("see(" + s[0] + ", " + s[1] + ", " + s[2] + ")",
                    x.see(s[0], s[1], s[2]), CoverOrder.OUTSIDE);
        }
        Check.due("count(9) after refusals", x.count(9), 0);
        Check.due("see(7, 7, 0)", x.see(7, 7, 0), 1);
        Check.due("see(0, 0, 0)", x.see(0, 0, 0), 2);
        Check.due("see(7, 0, 1)", x.see(7, 0, 1), 3);
        Check.due("see(0, 7, 1)", x.see(0, 7, 1), 4);
        Check.due("see(7, 7, 0) again", x.see(7, 7, 0), 5);
        Check.due("see(1, 2, 1)", x.see(1, 2, 1), 6);
        Check.due("see(1, 2, 1), the seventh", x.see(1, 2, 1), CoverOrder.FULL);
        Check.due("see(8, 2, 1), the seventh", x.see(8, 2, 1), CoverOrder.OUTSIDE);
        Check.due("count(9)", x.count(9), 6);
    }

    private static void unsee() {
        CoverOrder x = Check.graph("D3 01");
        Check.due("unsee() of nothing", x.unsee(), 0);
        x.see(2, 1, 1);
        x.see(1, 0, 1);
        Check.due("missing(0)", x.missing(0), 1);
        Check.due("unsee()", x.unsee(), 2);
        Check.due("count(9)", x.count(9), 0);
        Check.due("missing(0) with nothing seen", x.missing(0), 5);
        Check.due("unsee() again", x.unsee(), 0);
        Check.due("see(1, 0, 1)", x.see(1, 0, 1), 1);
    }

    private static void missing() {
        CoverOrder x = Check.graph("D3 01");
        Check.due("missing(0)", x.missing(0), 5);
        Check.due("missing(1)", x.missing(1), 2);
        x.see(2, 1, 1);
        Check.due("missing(0) of 2 by 1", x.missing(0), 1);
        Check.due("missing(1) of 2 by 1", x.missing(1), 12);
        x.see(2, 0, 1);
        Check.due("missing(0) of two lids", x.missing(0), 0);
        Check.due("missing(1) of two lids", x.missing(1), NONE);
        Check.dueRow("after missing", x, "01:1");
        Check.due("count(6) after missing", x.count(6), 2);
        Check.due("count(8) after missing", x.count(8), 0);
        Check.due("knot(2, 0) after missing", x.knot(2, 0), 0);
        x = Check.graph("D6 01 02 13 23 34 43 45 50");
        x.see(5, 0, 1);
        Check.due("missing(0) of 5 by 0", x.missing(0), 3);
        Check.due("missing(1) of 5 by 0", x.missing(1), 5);
        x.see(3, 0, 1);
        x.see(4, 3, 1);
        Check.due("missing(0) of three", x.missing(0), 3);
        x = Check.graph("D4 01 12 23");
        x.see(3, 1, 1);
        Check.due("missing(1) of 3 by 1", x.missing(1), 13);
        x = Check.graph("D2 01 10");
        Check.due("missing(0) with all edges there", x.missing(0), 0);
        Check.due("missing(1) with all edges there", x.missing(1), NONE);
        x = Check.graph("D8 01");
        Check.due("missing(0) of eight knots", x.missing(0), 55);
    }

    private static void missingNotHad() {
        CoverOrder x = Check.graph("D3 01");
        x.see(2, 0, 0);
        Check.due("missing(0) of 2 not by 0", x.missing(0), 4);
        Check.due("missing(1) of 2 not by 0", x.missing(1), 10);
        x.see(2, 1, 0);
        Check.due("missing(0) of 2 by none", x.missing(0), 3);
        x.see(1, 0, 0);
        Check.due("missing(0) of 1 not by 0", x.missing(0), 0);
        Check.due("missing(1) of 1 not by 0", x.missing(1), NONE);
    }

    private static void missingOfNoKnot() {
        CoverOrder x = Check.graph("D3 01");
        x.see(7, 0, 0);
        x.see(1, 7, 0);
        x.see(0, 0, 0);
        x.see(0, 7, 0);
        Check.due("missing(0) of what no knot had", x.missing(0), 5);
        x.see(7, 0, 1);
        Check.due("missing(0) of 7 by 0", x.missing(0), 0);
        x.unsee();
        x.see(0, 0, 1);
        Check.due("missing(0) of the root by 0", x.missing(0), 0);
        Check.due("missing(1) of the root by 0", x.missing(1), NONE);
        x.unsee();
        x.see(1, 7, 1);
        Check.due("missing(0) of 1 by 7", x.missing(0), 0);
    }

    private static void missingStaysUnderEdits() {
        CoverOrder x = Check.graph("D3 01");
        x.see(2, 1, 1);
        x.insert(1, 2);
        Check.due("missing(0) with 12", x.missing(0), 3);
        Check.due("missing(1) with 12", x.missing(1), 10);
        x.undo();
        Check.due("missing(1) without 12", x.missing(1), 12);
        Check.regraph(x, "D4 03 31");
        Check.due("missing(1) in another graph", x.missing(1), 12);
    }
}
