/** Promises 20 to 23: share, spared, seed, drawn. */
public final class ChancesTest {

    private ChancesTest() {
    }

    public static void main(String[] args) {
        share();
        spared();
        sparedOfAnyKnot();
        seed();
        drawn();
        drawnStepByStep();
        drawnWhereNoneCanCome();
        Check.end("ChancesTest");
    }

    private static void share(String text, int from, int to, int above, int below) {
        CoverOrder x = Check.graph(text);
        Check.dueFraction(text + ": share(" + from + ", " + to + ")",
                x.share(from, to, true), x.share(from, to, false), above, below);
    }

    private static void share() {
        share("D2 01", 0, 1, 1, 1);
        share("D2 01 10", 1, 0, 0, 1);
        share("D4 01 02 13 23", 0, 1, 3, 2);
        share("D4 01 02 13 23", 0, 2, 3, 2);
        share("D4 01 02 13 23", 1, 3, 0, 1);
        share("D5 01 02 03 14 24 34", 0, 1, 4, 3);
        share("D4 01 02 03 12 23", 0, 1, 11, 6);
        share("D4 01 02 03 12 23", 0, 2, 5, 6);
        share("D4 01 02 03 12 23", 0, 3, 1, 3);
        share("D4 01 23", 2, 3, 0, 1);
        share("D8 01 12 23 34 45 56 67", 0, 1, 7, 1);
        share("D8 01 02 03 04 05 06 07", 0, 4, 1, 1);
        share("D8 01 02 03 04 05 06 07 12", 0, 2, 1, 2);
        share("D8 01 02 03 04 05 06 07 12", 0, 1, 3, 2);
        share("D8 01 02 03 04 05 06 07 12 23 34 45 56 67 71", 0, 1, 1, 1);
        share("D8 01 02 03 04 05 06 07 12 23 34 45 56 67", 0, 7, 1, 7);
        CoverOrder x = Check.graph("D3 01 02 12");
        x.share(0, 1, true);
        Check.dueRow("after share", x, "01:1 02:2 12:3");
    }

    /** Rows of v, tenths, above, below. */
    private static void spared(String text, int knot, int... want) {
        CoverOrder x = Check.graph(text);
        for (int i = 0; i < want.length; i += 4) {
            int v = want[i];
            int t = want[i + 1];
            Check.dueFraction(text + ": spared(" + knot + ", " + v + ", " + t + ")",
                    x.spared(knot, v, t, true), x.spared(knot, v, t, false),
                    want[i + 2], want[i + 3]);
        }
    }

    private static void spared() {
        spared("D2 01", 0, 2, 3, 7, 10, 2, 7, 3, 10, 1, 3, 1, 1, 0, 10, 1, 1, 2, 10, 0, 1,
                2, 0, 1, 1, 2, 5, 1, 2, 3, 0, 0, 1, 8, 0, 0, 1);
        spared("D3 01 02", 0, 2, 5, 3, 4, 2, 3, 91, 100, 3, 3, 49, 100, 3, 4, 9, 25, 3, 10, 0, 1,
                2, 10, 0, 1, 1, 10, 1, 1, 3, 0, 1, 1);
        spared("D3 01 02 12", 0, 3, 2, 4, 5, 2, 2, 24, 25);
        spared("D8 01 02 03 04 05 06 07", 0, 8, 1, 4782969, 10000000, 8, 9, 1, 10000000,
                1, 9, 1, 1, 2, 9, 5217031, 10000000, 7, 5, 1, 16, 8, 0, 1, 1, 8, 10, 0, 1);
    }

    private static void sparedOfAnyKnot() {
        spared("D6 01 02 13 23 34 43 45", 4, 6, 2, 4, 5, 5, 2, 1, 1);
        spared("D6 01 02 13 23 34 43 45", 1, 6, 2, 1, 1);
        spared("D4 01 12 23 21", 2, 4, 3, 7, 10, 3, 3, 1, 1);
        // No edges, and a knot that is not reached.
        spared("D4 01 23", 1, 2, 5, 1, 1, 3, 5, 0, 1);
        spared("D4 01 23", 2, 2, 5, 1, 1, 3, 5, 0, 1);
        spared("D1", 0, 0, 5, 1, 1, 1, 5, 1, 1, 2, 5, 0, 1);
    }

    private static void seed() {
        CoverOrder x = new CoverOrder();
        Check.due("seed(7)", x.seed(7), 0);
        Check.due("seed(least)", x.seed(Long.MIN_VALUE), 7);
        Check.due("seed(most)", x.seed(Long.MAX_VALUE), Long.MIN_VALUE);
        Check.due("seed(-1)", x.seed(-1), Long.MAX_VALUE);
        Check.due("seed(0)", x.seed(0), -1);
        x.drawn(1);
        Check.due("seed(1) after one", x.seed(1), 1442695040888963407L);
        x.drawn(1);
        Check.due("seed(0) after one from 1", x.seed(0), 7806831264735756412L);
        x.drawn(2);
        Check.due("seed(0) after two", x.seed(0), 1876011003808476466L);
        Check.due("drawn(0)", x.drawn(0), CoverOrder.OUTSIDE);
        Check.due("drawn(21)", x.drawn(21), CoverOrder.OUTSIDE);
        Check.due("seed after refusals", x.seed(0), 0);
    }

    private static void drawn() {
        CoverOrder x = Check.graph("D6 01 02 13 23 34 43 45");
        x.insert(5, 0);
        x.seed(5);
        Check.due("drawn(20)", x.drawn(20), 158);
        x.seed(5);
        Check.due("drawn(1)", x.drawn(1), 8);
        Check.dueRow("after drawn", x, "01:1 02:2 13:3 23:4 34:5 43:6 45:7 50:8");
        Check.due("count(6) after drawn", x.count(6), 9);
        Check.due("count(8) after drawn", x.count(8), 1);
        Check.due("count(4) after drawn", x.count(4), 8);
        x.seed(5);
        x.drawn(20);
        long seed = x.seed(5);
        x.drawn(12);
        x.drawn(8);
        Check.due("the seed after as many", x.seed(0), seed);
        Check.due("drawn(-1)", x.drawn(-1), CoverOrder.OUTSIDE);
        Check.due("drawn(most)", x.drawn(Integer.MAX_VALUE), CoverOrder.OUTSIDE);
    }

    /** Two knots: the upper 31 bits and their eighth tell alone what is turned. */
    private static void drawnStepByStep() {
        for (int start = 0; start < 40; start++) {
            CoverOrder x = Check.graph("D2");
            long seed = start * 0x123456789ABCDEFL;
            x.seed(seed);
            boolean there = false;
            int sum = 0;
            for (int i = 0; i < 20; i++) {
                seed = seed * 6364136223846793005L + 1442695040888963407L;
                long upper = seed >>> 33;
                boolean down = upper % 2 == 0 && upper / 8 % 2 == 1;
                there ^= down;
                sum += there ? 1 : 0;
            }
            Check.due("drawn(20) from start " + start, x.drawn(20), sum);
            Check.due("seed from start " + start, x.seed(0), seed);
        }
    }

    /** With 24 edges none can come until one has gone. */
    private static void drawnWhereNoneCanCome() {
        CoverOrder x = Check.graph(Check.FULL);
        Oracle o = new Oracle();
        for (char c : Check.FULL.replace(" ", "").toCharArray()) {
            o.write(c);
        }
        o.graph();
        for (int start = 0; start < 60; start++) {
            x.seed(start);
            o.seed(start);
            Check.due("full: drawn(20) from " + start, x.drawn(20), o.drawn(20));
        }
        Check.due("full: count(2)", x.count(2), 24);
    }
}
