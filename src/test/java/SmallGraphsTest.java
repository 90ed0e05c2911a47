/**
 * All graphs of up to three knots, with each question that can be asked of them, and all of four
 * knots with all but rows: compared with the oracle.
 */
public final class SmallGraphsTest {
    private static final int LAST_CALL = 500;

    private final String text;
    private final Oracle o = new Oracle();
    private CoverOrder x;
    private int calls;

    private SmallGraphsTest(String text) {
        this.text = text;
        for (int i = 0; i < text.length(); i++) {
            o.write(text.charAt(i));
        }
        o.graph();
        renew();
    }

    public static void main(String[] args) {
        for (int n = 1; n <= 4; n++) {
            for (int set = 0; set < 1 << n * (n - 1); set++) {
                SmallGraphsTest test = new SmallGraphsTest(textOf(n, set));
                test.questions(n);
                if (n <= 3) {
                    test.rows(n);
                }
            }
        }
        Check.end("SmallGraphsTest");
    }

    /** Each bit of the set is one edge; they stand in another row in every second graph. */
    private static String textOf(int n, int set) {
        StringBuilder text = new StringBuilder("D").append(n);
        int bit = 0;
        for (int from = 0; from < n; from++) {
            for (int to = 0; to < n; to++) {
                if (from != to) {
                    if ((set >> bit & 1) == 1) {
                        text.insert(Integer.bitCount(set) % 2 == 0 ? text.length() : 2,
                                "" + from + to);
                    }
                    bit++;
                }
            }
        }
        return text.toString();
    }

    private void renew() {
        x = new CoverOrder();
        Check.write(x, text);
        x.graph();
        calls = text.length() + 1;
    }

    private void due(String call, long got, long want) {
        Check.due(text + ": " + call, got, want);
        calls++;
        if (calls >= LAST_CALL) {
            renew();
        }
    }

    private void questions(int n) {
        for (int what = 0; what <= 9; what++) {
            due("count(" + what + ")", x.count(what), o.count(what));
        }
        for (int one = 0; one < n; one++) {
            for (int what = 0; what <= 6; what++) {
                due("knot(" + one + ", " + what + ")", x.knot(one, what), o.knot(one, what));
            }
            due("showing(" + one + ")", x.showing(one), o.showing(one));
            for (int other = 0; other < n; other++) {
                String both = "(" + one + ", " + other + ")";
                due("nearest" + both, x.nearest(one, other), o.nearest(one, other));
                due("would" + both, x.would(one, other), o.would(one, other));
                due("share" + both, x.share(one, other, true), o.share(one, other, true));
                due("share" + both, x.share(one, other, false), o.share(one, other, false));
            }
            for (int v = 0; v <= n + 1; v++) {
                due("spared(" + one + ", " + v + ", 3)", x.spared(one, v, 3, true),
                        o.spared(one, v, 3, true));
            }
        }
    }

    private void rows(int n) {
        for (int row = 0; row < 1000; row++) {
            due("judge(1, " + row + ")", x.judge(1, row), o.judge(1, row));
            due("look(" + row + ")", x.look(row), o.look(row));
        }
        for (int sight = 0; sight < 2 * n * n; sight++) {
            int v = sight / n % n;
            int u = sight % n;
            int had = sight / n / n;
            o.unsee();
            o.see(v, u, had);
            for (int what = 0; what <= 1; what++) {
                x.unsee();
                x.see(v, u, had);
                calls += 2;
                due("missing(" + what + ") by " + v + u + had, x.missing(what), o.missing(what));
            }
        }
    }
}
