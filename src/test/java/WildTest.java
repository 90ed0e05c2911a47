/** No call throws, whatever it is told and whatever was done before; later than the 512th, too. */
public final class WildTest {
    private static final int RUNS = 40;
    private static final int CALLS = 3000;
    private static final long[] FAR = {Long.MIN_VALUE, Long.MIN_VALUE + 1, Integer.MIN_VALUE, -100,
        -9, -2, -1, 9, 10, 24, 25, 63, 64, 255, 256, 99999999L, 100000000L, 999999999999L,
        1000000000000L, Integer.MAX_VALUE, 1L << 32, Long.MAX_VALUE - 1, Long.MAX_VALUE};

    private final CoverOrder x = new CoverOrder();
    private long dice;

    private WildTest(long start) {
        dice = start * 0x9E3779B97F4A7C15L + 1;
    }

    public static void main(String[] args) {
        for (int run = 1; run <= RUNS; run++) {
            new WildTest(run).go();
        }
        Check.end("WildTest");
    }

    private int below(int bound) {
        dice ^= dice << 13;
        dice ^= dice >>> 7;
        dice ^= dice << 17;
        return (int) ((dice >>> 20) % bound);
    }

    private int number() {
        return below(6) == 0 ? (int) FAR[below(FAR.length)] : below(8);
    }

    private long row() {
        return below(3) == 0 ? FAR[below(FAR.length)] : (dice >>> 1) % (1L << 4 * below(16));
    }

    private void go() {
        for (int i = 0; i < CALLS; i++) {
            int kind = below(30);
            String call = "call " + i + " of kind " + kind;
            try {
                one(kind);
                Check.due(call, 0, 0);
            } catch (RuntimeException | Error e) {
                System.out.println(e);
                Check.due(call + " threw", 1, 0);
                return;
            }
        }
    }

    private void one(int kind) {
        switch (kind) {
            case 0: x.write(number() + '0' * below(2)); break;
            case 1: x.wipe(); break;
            case 2: x.fault(); break;
            case 3: x.graph(); break;
            case 4: case 5: case 6: x.insert(number(), number()); break;
            case 7: x.delete(number(), number()); break;
            case 8: x.undo(); break;
            case 9: x.stamp(number(), number()); break;
            case 10: x.edge(number()); break;
            case 11: x.knot(number(), number()); break;
            case 12: x.nearest(number(), number()); break;
            case 13: x.would(number(), number()); break;
            case 14: x.showing(number()); break;
            case 15: x.look(row()); break;
            case 16: x.judge(number(), row()); break;
            case 17: x.see(number(), number(), number()); break;
            case 18: x.unsee(); break;
            case 19: x.missing(number()); break;
            case 20: x.share(number(), number(), below(2) == 0); break;
            case 21: x.spared(number(), number(), number(), below(2) == 0); break;
            case 22: x.seed(row()); break;
            case 23: x.drawn(number()); break;
            case 24: x.keep(number()); break;
            case 25: x.again(number()); break;
            case 26: x.count(number()); break;
            default: Check.regraphed(x, 'D' + text(1 + below(8))); break;
        }
    }

    /** Knots and edges, each likely to be none that is there. */
    private String text(int knots) {
        StringBuilder text = new StringBuilder().append(knots);
        int most = below(26);
        for (int from = 0; from < knots; from++) {
            for (int to = 0; to < knots && most > 0; to++) {
                if (from != to && below(3) > 0) {
                    text.append(from).append(to);
                    most--;
                }
            }
        }
        return text.toString();
    }
}
