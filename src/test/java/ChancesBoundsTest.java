import java.math.BigInteger;

/** FRACTIONS, SHARE, SPARED, DRAWN of the terms, promises 20 to 23: each boundary. */
public final class ChancesBoundsTest {
    private static final long FACTOR = 6364136223846793005L;
    private static final long STEP = 1442695040888963407L;
    /** The factor's inverse in 64 bits: it leads from what is drawn back to the seed ahead of it. */
    private static final long BACK = inverse();

    private ChancesBoundsTest() {
    }

    public static void main(String[] args) {
        Check.sentence("FRACTIONS are told above (upper = true), below", ChancesBoundsTest::upper);
        Check.sentence("in least terms", ChancesBoundsTest::leastTerms);
        Check.sentence("refusals of them are told likewise", ChancesBoundsTest::refusals);
        Check.sentence("SHARE: if EDGES from its KNOT come one by one, in each order as likely",
                ChancesBoundsTest::eachOrder);
        Check.sentence("all others being there", ChancesBoundsTest::othersThere);
        Check.sentence("by how many KNOTS in the mean there are more REACHED",
                ChancesBoundsTest::shareBounds);
        Check.sentence("SPARED: each EDGE from a KNOT fails by x tenths (0 to 10)",
                ChancesBoundsTest::tenths);
        Check.sentence("by itself", ChancesBoundsTest::byItself);
        Check.sentence("that v KNOTS (0 to 8) or more are REACHED", ChancesBoundsTest::reached);
        Check.sentence("EDGES from a KNOT: of one without any", ChancesBoundsTest::noEdges);
        Check.sentence("THE SEED, a long; 0 at first", ChancesBoundsTest::seedAtFirst);
        Check.sentence("22: THE SEED is v: what it was", ChancesBoundsTest::seed);
        Check.sentence("m times (1 to 20)", ChancesBoundsTest::times);
        Check.sentence("(64 bits, wrapping)", ChancesBoundsTest::wrapping);
        Check.sentence("of its upper 31 bits", ChancesBoundsTest::upperBits);
        Check.sentence("what is left by n is a KNOT", ChancesBoundsTest::leftByN);
        Check.sentence("that by 8 (cut), left by n, another one", ChancesBoundsTest::byEight);
        Check.sentence("if they are unlike", ChancesBoundsTest::unlike);
        Check.sentence("is DELETED, if it is there", ChancesBoundsTest::deleted);
        Check.sentence("else INSERTED, if it can be", ChancesBoundsTest::insertedIfItCan);
        Check.sentence("DEPTHS of all that are REACHED together, each time, together",
                ChancesBoundsTest::eachTime);
        Check.sentence("(Nothing changes but THE SEED.)", ChancesBoundsTest::onlyTheSeed);
        Check.sentence("In what follows nothing is changed", ChancesBoundsTest::nothingChanged);
        Check.end("ChancesBoundsTest");
    }

    private static long inverse() {
        BigInteger all = BigInteger.ONE.shiftLeft(64);
        return BigInteger.valueOf(FACTOR).modInverse(all).longValue();
    }

    private static void share(String text, int from, int to, int above, int below) {
        CoverOrder x = Check.graph(text);
        Check.dueFraction(text + ": share(" + from + ", " + to + ")",
                x.share(from, to, true), x.share(from, to, false), above, below);
    }

    private static void spared(String text, int knot, int v, int tenths, int above, int below) {
        CoverOrder x = Check.graph(text);
        Check.dueFraction(text + ": spared(" + knot + ", " + v + ", " + tenths + ")",
                x.spared(knot, v, tenths, true), x.spared(knot, v, tenths, false), above, below);
    }

    private static void upper() {
        CoverOrder x = Check.graph("D4 01 02 13 23");
        Check.due("share above", x.share(0, 1, true), 3);
        Check.due("share below", x.share(0, 1, false), 2);
        Check.due("spared above", x.spared(0, 4, 1, true), 81);
        Check.due("spared below", x.spared(0, 4, 1, false), 100);
    }

    private static void leastTerms() {
        share("D2 01 10", 1, 0, 0, 1);
        share("D2 01", 0, 1, 1, 1);
        share("D5 01 02 03 14 24 34", 0, 1, 4, 3);
        spared("D3 01 02", 0, 3, 0, 1, 1);
        spared("D3 01 02", 0, 3, 10, 0, 1);
        spared("D3 01 02", 0, 3, 5, 1, 4);
        spared("D3 01 02", 0, 3, 4, 9, 25);
        spared("D3 01 02", 0, 4, 4, 0, 1);
    }

    private static void refusals() {
        CoverOrder x = Check.graph("D3 01 12");
        for (boolean upper : new boolean[] {true, false}) {
            Check.due("share(3, 0)", x.share(3, 0, upper), CoverOrder.UNKNOWN);
            Check.due("share(0, -1)", x.share(0, -1, upper), CoverOrder.UNKNOWN);
            Check.due("share(0, 2)", x.share(0, 2, upper), CoverOrder.STATE);
            Check.due("spared(3, 0, 0)", x.spared(3, 0, 0, upper), CoverOrder.UNKNOWN);
            Check.due("spared(0, 9, 0)", x.spared(0, 9, 0, upper), CoverOrder.OUTSIDE);
            Check.due("spared(0, -1, 0)", x.spared(0, -1, 0, upper), CoverOrder.OUTSIDE);
            Check.due("spared(0, 0, 11)", x.spared(0, 0, 11, upper), CoverOrder.OUTSIDE);
            Check.due("spared(0, 0, -1)", x.spared(0, 0, -1, upper), CoverOrder.OUTSIDE);
        }
    }

    /** 3 comes by 01 or by 02, whichever is the first; of more edges an order has more places. */
    private static void eachOrder() {
        share("D4 01 02 13 23", 0, 1, 3, 2);
        share("D5 01 02 04 13 23", 0, 1, 3, 2);
        share("D5 01 02 04 13 23", 0, 4, 1, 1);
        share("D5 01 02 03 12 24", 0, 1, 2, 1);
        share("D4 01 02 03 12 23", 0, 1, 11, 6);
        share("D8 01 02 03 04 05 06 07 12", 0, 2, 1, 2);
        share("D8 01 02 03 04 05 06 07 12 23 34 45 56 67", 0, 7, 1, 7);
    }

    private static void othersThere() {
        // 12 and 21 are there all the time, 01 and 02 come.
        share("D3 01 02 12 21", 0, 1, 1, 1);
        share("D3 01 02 12", 0, 2, 1, 2);
        // Where 02 is there, 12 gains nothing.
        share("D3 01 02 12", 1, 2, 0, 1);
    }

    private static void shareBounds() {
        share(Check.CHAIN, 0, 1, 7, 1);
        share(Check.CHAIN, 6, 7, 1, 1);
        share("D8 01 02 03 04 05 06 07", 0, 7, 1, 1);
        // From a knot that is not reached, to the root, to what is reached.
        share("D3 12", 1, 2, 0, 1);
        share("D2 01 10", 1, 0, 0, 1);
        share("D4 01 12 23 31", 3, 1, 0, 1);
        CoverOrder x = Check.graph("D2 01");
        Check.due("share(0, 0)", x.share(0, 0, true), CoverOrder.STATE);
        Check.due("share(1, 0)", x.share(1, 0, true), CoverOrder.STATE);
    }

    private static void tenths() {
        int[] above = {1, 9, 4, 7, 3, 1, 2, 3, 1, 1, 0};
        int[] below = {1, 10, 5, 10, 5, 2, 5, 10, 5, 10, 1};
        for (int tenths = 0; tenths <= 10; tenths++) {
            spared("D2 01", 0, 2, tenths, above[tenths], below[tenths]);
            spared("D2 01", 0, 1, tenths, 1, 1);
        }
        CoverOrder x = Check.graph("D2 01");
        Check.due("spared by -1 tenths", x.spared(0, 2, -1, true), CoverOrder.OUTSIDE);
        Check.due("spared by 11 tenths", x.spared(0, 2, 11, true), CoverOrder.OUTSIDE);
    }

    private static void byItself() {
        spared("D3 01 02", 0, 3, 1, 81, 100);
        spared("D3 01 02", 0, 2, 1, 99, 100);
        spared("D3 01 02 12", 0, 3, 1, 9, 10);
        spared("D8 01 02 03 04 05 06 07", 0, 8, 1, 4782969, 10000000);
        spared("D8 01 02 03 04 05 06 07", 0, 2, 1, 9999999, 10000000);
        spared("D8 01 02 03 04 05 06 07", 0, 8, 9, 1, 10000000);
    }

    private static void reached() {
        String all = "D8 01 02 03 04 05 06 07";
        spared(all, 0, 0, 10, 1, 1);
        spared(all, 0, 1, 10, 1, 1);
        spared(all, 0, 2, 10, 0, 1);
        spared(all, 0, 7, 0, 1, 1);
        spared(all, 0, 8, 0, 1, 1);
        spared(all, 0, 8, 5, 1, 128);
        spared(all, 0, 7, 5, 1, 16);
        spared(all, 0, 2, 5, 127, 128);
        CoverOrder x = Check.graph(all);
        Check.due("spared of 9 knots", x.spared(0, 9, 0, true), CoverOrder.OUTSIDE);
        Check.due("spared of -1 knots", x.spared(0, -1, 0, true), CoverOrder.OUTSIDE);
        // More knots than there are.
        spared("D2 01", 0, 3, 0, 0, 1);
        spared("D1", 0, 8, 0, 0, 1);
        spared("D1", 0, 2, 0, 0, 1);
        spared("D1", 0, 1, 10, 1, 1);
    }

    private static void noEdges() {
        spared("D3 01", 1, 2, 10, 1, 1);
        spared("D3 01", 1, 3, 0, 0, 1);
        // An edge from a knot that is not reached changes nothing by its failing.
        spared("D4 01 23", 2, 2, 10, 1, 1);
        spared("D4 01 23", 2, 3, 0, 0, 1);
    }

    private static void seedAtFirst() {
        CoverOrder x = new CoverOrder();
        Check.due("seed(0)", x.seed(0), 0);
        x = new CoverOrder();
        x.drawn(1);
        Check.due("seed(0) after one", x.seed(0), STEP);
    }

    private static void seed() {
        CoverOrder x = new CoverOrder();
        long was = 0;
        for (long v : new long[] {1, -1, Long.MAX_VALUE, Long.MIN_VALUE, 1L << 32, -(1L << 32), 0}) {
            Check.due("seed(" + v + ")", x.seed(v), was);
            was = v;
        }
        Twin.asked("seed(1) and back", ChancesBoundsTest::worn, y -> {
            y.seed(1);
            y.seed(9);
        });
    }

    private static void times() {
        for (int m = 1; m <= 20; m++) {
            CoverOrder x = Check.graph("D2 01");
            long want = 0;
            for (int i = 0; i < m; i++) {
                want = want * FACTOR + STEP;
            }
            Check.due("drawn(" + m + ") is not refused", x.drawn(m) >= 0 ? 1 : 0, 1);
            Check.due("seed after drawn(" + m + ")", x.seed(0), want);
        }
        CoverOrder x = Check.graph("D2 01");
        Check.due("drawn(0)", x.drawn(0), CoverOrder.OUTSIDE);
        Check.due("drawn(21)", x.drawn(21), CoverOrder.OUTSIDE);
        Check.due("drawn(-1)", x.drawn(-1), CoverOrder.OUTSIDE);
        Check.due("seed after refusals", x.seed(0), 0);
    }

    private static void wrapping() {
        BigInteger all = BigInteger.ONE.shiftLeft(64);
        for (long seed : new long[] {1, -1, 2, 3, Long.MAX_VALUE, Long.MIN_VALUE, 1L << 62}) {
            CoverOrder x = new CoverOrder();
            x.seed(seed);
            x.drawn(1);
            long want = BigInteger.valueOf(seed).multiply(BigInteger.valueOf(FACTOR))
                    .add(BigInteger.valueOf(STEP)).mod(all).longValue();
            Check.due("seed after one from " + seed, x.seed(0), want);
        }
    }

    /** An object of the told graph whose next drawn number has the told upper 31 bits. */
    private static CoverOrder aboutToDraw(String text, long upper) {
        CoverOrder x = Check.graph(text);
        long drawn = (upper << 33) + 0x123456789L;
        x.seed((drawn - STEP) * BACK);
        return x;
    }

    private static void drawn(String text, long upper, int want) {
        CoverOrder x = aboutToDraw(text, upper);
        Check.due(text + ": drawn(1) by " + upper, x.drawn(1), want);
        Check.due(text + ": the seed by " + upper, x.seed(0) >>> 33, upper);
    }

    /** 2^31 - 1 is the greatest; the highest bit is a bit as others are, and no sign. */
    private static void upperBits() {
        long most = (1L << 31) - 1;
        Check.due("the greatest left by 6", most % 6, 1);
        Check.due("its eighth left by 6", most / 8 % 6, 3);
        drawn("D6 01", most, 3);
        drawn("D6 01 13", most, 1);
        Check.due("2^30 left by 5", (1L << 30) % 5, 4);
        Check.due("its eighth left by 5", (1L << 30) / 8 % 5, 3);
        drawn("D5 04", 1L << 30, 3);
        drawn("D2 01", 0, 1);
        drawn("D2 01", 1, 1);
        drawn("D2 01", 8, 0);
    }

    /** The eighth of 16 to 23 is 2, that of 56 to 63 is 7. */
    private static void leftByN() {
        drawn("D5 01", 16, 3);
        drawn("D5 01", 21, 3);
        drawn("D5 02", 20, 0);
        drawn("D5", 19, 0);
        drawn("D8 01", 17, 3);
        drawn("D8 02", 58, 3);
        drawn("D8 07", 56, 0);
        drawn("D8", 56, 1);
        drawn("D3 01", 21, 2);
        drawn("D3 01", 16, 3);
    }

    /** Cut, not rounded; and 24 by 8 is 3, which is 0 of three and 3 of four. */
    private static void byEight() {
        drawn("D2", 7, 0);
        drawn("D2", 8, 1);
        drawn("D2", 14, 1);
        drawn("D2", 15, 0);
        drawn("D2", 16, 0);
        drawn("D3", 15, 1);
        drawn("D3 01 12", 25, 3);
        drawn("D4 01", 24, 2);
        drawn("D4 01", 25, 3);
    }

    private static void unlike() {
        drawn("D1", 0, 0);
        drawn("D1", (1L << 31) - 1, 0);
        drawn("D2", 0, 0);
        drawn("D2", 9, 0);
        drawn("D3 01 12", 0, 3);
        drawn("D3 01 12", 10, 3);
        drawn("D3 01 12", 20, 3);
        drawn("D8 07", 63, 1);
    }

    /** The pair turned round, 10 by 1 and 21 by 8 of three, is not there. */
    private static void deleted() {
        drawn("D2 01", 8, 0);
        drawn("D2 01", 1, 1);
        drawn("D3 01 12", 9, 0);
        drawn("D3 01 12", 19, 1);
        drawn("D3 01 12", 8, 3);
        drawn(Check.CHAIN, 62, 21);
        drawn(Check.CHAIN, 8, 0);
        drawn(Check.FULL, 8, 7);
    }

    /** From 3 to 4 by 35: the 24th edge comes, a 25th does not, and one of 24 can go. */
    private static void insertedIfItCan() {
        String less = "D8 01 12 23 32 31 30 21 20 13 10 50 51 52 53 54 56 57 60 61 62 63 64 65";
        drawn(less, 35, 8);
        drawn(less + "67", 35, 5);
        drawn(less + "67", 32, 5);
        drawn(less + "67", 8, 0);
    }

    /** The edges turned stay so until the call ends. */
    private static void eachTime() {
        int[] starts = {0, 1, 2, 3, 4, 5, 6, 7, 8, 9};
        for (int start : starts) {
            CoverOrder x = Check.graph("D2");
            long seed = start * 0x123456789ABCDEFL;
            x.seed(seed);
            boolean there = false;
            int sum = 0;
            for (int i = 0; i < 20; i++) {
                seed = seed * FACTOR + STEP;
                long upper = seed >>> 33;
                there ^= upper % 2 == 0 && upper / 8 % 2 == 1;
                sum += there ? 1 : 0;
            }
            Check.due("drawn(20) from start " + start, x.drawn(20), sum);
        }
    }

    private static void worn(CoverOrder x) {
        Check.regraphed(x, "D5 01 02 13 23 34 43");
        x.keep(0);
        x.delete(0, 2);
        x.insert(0, 2);
        x.see(3, 0, 1);
        x.seed(9);
    }

    private static void onlyTheSeed() {
        for (int m : new int[] {1, 2, 20}) {
            Twin.asked("drawn(" + m + ") but for the seed", ChancesBoundsTest::worn, x -> {
                x.drawn(m);
                x.seed(9);
            });
        }
    }

    private static void nothingChanged() {
        for (boolean upper : new boolean[] {true, false}) {
            Twin.asked("share(0, 1)", ChancesBoundsTest::worn, x -> x.share(0, 1, upper));
            Twin.asked("share(4, 3)", ChancesBoundsTest::worn, x -> x.share(4, 3, upper));
            Twin.asked("spared(0, 3, 5)", ChancesBoundsTest::worn, x -> x.spared(0, 3, 5, upper));
            Twin.asked("spared(4, 8, 10)", ChancesBoundsTest::worn, x -> x.spared(4, 8, 10, upper));
        }
    }
}
