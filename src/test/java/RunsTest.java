/** Long runs of calls of all kinds, each answer compared with the oracle's. */
public final class RunsTest {
    private static final int RUNS = 500;
    /** An object is good for 512 calls; what begins within these ends within those. */
    private static final int CALLS = 380;

    private final CoverOrder x = new CoverOrder();
    private final Oracle o = new Oracle();
    private final StringBuilder told = new StringBuilder();
    private int calls;
    private long dice;

    private RunsTest(long start) {
        dice = start * 0x9E3779B97F4A7C15L + 1;
    }

    public static void main(String[] args) {
        for (int run = 1; run <= RUNS; run++) {
            new RunsTest(run).go();
        }
        Check.end("RunsTest");
    }

    private int below(int bound) {
        dice ^= dice << 13;
        dice ^= dice >>> 7;
        dice ^= dice << 17;
        return (int) ((dice >>> 20) % bound);
    }

    /** Nearly always a knot. */
    private int knot() {
        return below(30) == 0 ? below(12) - 2 : below(o.g.n);
    }

    /** Nearly always less than the bound. */
    private int what(int bound) {
        return below(30) == 0 ? below(bound + 4) - 2 : below(bound);
    }

    private void go() {
        int most = 1 + below(8);
        text(most, below(most * (most - 1) + 1), false);
        while (calls < CALLS) {
            one(below(44));
        }
        Check.due("calls of a run beyond 512", Math.max(0, calls - 512), 0);
    }

    private void say(String call, long got, long want) {
        calls++;
        told.append(call).append(" -> ").append(want).append('\n');
        if (got != want) {
            System.out.println(told);
        }
        Check.due(call, got, want);
        if (got != want) {
            Check.end("RunsTest");
        }
    }

    private void letter(int letter) {
        say("write(" + letter + ")", x.write(letter), o.write(letter));
    }

    private void fault() {
        say("fault()", x.fault(), o.fault());
    }

    /** Writes a graph, perhaps with a wrong letter in it, and makes it the graph. */
    private void text(int knots, int edges, boolean wrong) {
        say("wipe()", x.wipe(), o.wipe());
        StringBuilder text = new StringBuilder("D").append(knots);
        boolean[] is = new boolean[64];
        for (int i = 0, put = 0; i < 400 && put < edges && put < 24; i++) {
            int from = below(knots);
            int to = below(knots);
            if (from != to && !is[8 * from + to]) {
                is[8 * from + to] = true;
                put++;
                text.append(from).append(to);
            }
        }
        if (wrong) {
            int place = below(text.length());
            switch (below(3)) {
                case 0:
                    text.setCharAt(place, (char) ('0' + below(10)));
                    break;
                case 1:
                    text.deleteCharAt(place);
                    break;
                default:
                    text.append((char) ('0' + below(10))).append((char) ('0' + below(10)));
                    break;
            }
        }
        for (int i = 0; i < text.length(); i++) {
            letter(text.charAt(i));
            if (below(8) == 0) {
                fault();
            }
        }
        fault();
        say("graph()", x.graph(), o.graph());
    }

    private void insert() {
        int from = knot();
        int to = knot();
        say("insert(" + from + ", " + to + ")", x.insert(from, to), o.insert(from, to));
    }

    private void delete() {
        int pair = o.edge(below(24));
        boolean any = pair < 0 || below(10) == 0;
        int from = any ? knot() : pair / 10;
        int to = any ? knot() : pair % 10;
        say("delete(" + from + ", " + to + ")", x.delete(from, to), o.delete(from, to));
    }

    private void share() {
        int pair = o.edge(below(24));
        boolean any = pair < 0 || below(10) == 0;
        int from = any ? knot() : pair / 10;
        int to = any ? knot() : pair % 10;
        say("share(" + from + ", " + to + ")", x.share(from, to, true), o.share(from, to, true));
        say("share(" + from + ", " + to + ")", x.share(from, to, false), o.share(from, to, false));
    }

    private void spared() {
        int knot = knot();
        int v = what(9);
        int t = what(11);
        String call = "spared(" + knot + ", " + v + ", " + t + ")";
        say(call, x.spared(knot, v, t, true), o.spared(knot, v, t, true));
        say(call, x.spared(knot, v, t, false), o.spared(knot, v, t, false));
    }

    /** A row near the least showing, or any row. */
    private void look() {
        int length = o.count(3);
        java.util.List<Integer> showing = o.g.leastShowing();
        long row = 0;
        for (int i = 0; i < length; i++) {
            row = 10 * row + showing.get(i);
        }
        int changes = below(4);
        for (int i = 0; i < changes; i++) {
            row = changed(row, length);
        }
        if (below(40) == 0) {
            row = -row - 1;
        }
        if (below(20) == 0) {
            row = row * 10 + below(10);
        }
        say("look(" + row + ")", x.look(row), o.look(row));
    }

    /** Two figures side by side change places, or one becomes any other. */
    private long changed(long row, int length) {
        long unit = 1;
        for (int i = below(length); i > 0; i--) {
            unit *= 10;
        }
        long low = row / unit % 10;
        long high = row / unit / 10 % 10;
        if (below(4) == 0) {
            return row + (below(10) - low) * unit;
        }
        return row + (high - low) * unit + (low - high) * unit * 10;
    }

    private void judge() {
        int n = 1 + below(4);
        long row = 0;
        Oracle.Graph seen = o.g;
        for (int i = 0; i < n; i++) {
            int doing = below(12) == 0 ? below(10) : 1 + below(8);
            int one = below(o.g.n);
            int other = below(o.g.n);
            if (doing == 2 && !seen.edges.isEmpty()) {
                int[] edge = seen.edges.get(below(seen.edges.size()));
                one = edge[0];
                other = edge[1];
            } else if (doing == 4 && below(3) > 0) {
                one = Math.max(0, seen.lid(other));
            } else if (doing == 5 && below(3) > 0) {
                other = Math.max(0, seen.depth(one));
            } else if (doing == 6 && below(3) > 0) {
                one = Math.max(0, seen.half(other));
            } else if (doing == 8) {
                one = below(10) == 0 ? 1 : 0;
                other = below(o.count(3) + 2);
            } else if (below(15) == 0) {
                other = below(10);
            }
            row = 1000 * row + 100 * doing + 10 * one + other;
        }
        int told = below(25) == 0 ? below(7) - 1 : n;
        if (below(40) == 0) {
            row = -row - 1;
        }
        say("judge(" + told + ", " + row + ")", x.judge(told, row), o.judge(told, row));
    }

    private void see() {
        int v = what(below(4) == 0 ? 8 : o.g.n);
        int u = what(8);
        int had = what(2);
        if (below(3) > 0 && v >= 0 && v < o.g.n && o.g.lid(v) >= 0) {
            u = o.g.lid(v);
        }
        say("see(" + v + ", " + u + ", " + had + ")", x.see(v, u, had), o.see(v, u, had));
    }

    private void missing() {
        int what = what(2);
        say("missing(" + what + ")", x.missing(what), o.missing(what));
    }

    private void one(int kind) {
        int a = knot();
        int b = knot();
        int w;
        switch (kind) {
            case 0:
                int most = 1 + below(8);
                text(most, below(below(3) == 0 ? 57 : 2 * most), below(2) == 0);
                break;
            case 1:
                letter(below(4) == 0 ? below(300) - 20 : '0' + below(10));
                fault();
                break;
            case 2: case 3: case 4: case 5: case 6: case 7:
                insert();
                break;
            case 8: case 9: case 10: case 11:
                delete();
                break;
            case 12: case 13: case 14:
                say("undo()", x.undo(), o.undo());
                break;
            case 15: case 16:
                say("stamp(" + a + ", " + b + ")", x.stamp(a, b), o.stamp(a, b));
                break;
            case 17:
                w = below(30) - 3;
                say("edge(" + w + ")", x.edge(w), o.edge(w));
                break;
            case 18: case 19: case 20: case 21: case 22:
                w = what(7);
                say("knot(" + a + ", " + w + ")", x.knot(a, w), o.knot(a, w));
                break;
            case 23: case 24:
                say("nearest(" + a + ", " + b + ")", x.nearest(a, b), o.nearest(a, b));
                break;
            case 25: case 26:
                say("would(" + a + ", " + b + ")", x.would(a, b), o.would(a, b));
                break;
            case 27:
                w = what(8);
                say("showing(" + w + ")", x.showing(w), o.showing(w));
                break;
            case 28: case 29:
                look();
                break;
            case 30: case 31: case 32:
                judge();
                break;
            case 33: case 34:
                see();
                break;
            case 35:
                say("unsee()", x.unsee(), o.unsee());
                break;
            case 36:
                missing();
                break;
            case 37:
                share();
                break;
            case 38:
                spared();
                break;
            case 39:
                long v = below(3) == 0 ? dice : below(100);
                say("seed(" + v + ")", x.seed(v), o.seed(v));
                break;
            case 40:
                w = what(21);
                say("drawn(" + w + ")", x.drawn(w), o.drawn(w));
                break;
            case 41:
                w = what(2);
                say("keep(" + w + ")", x.keep(w), o.keep(w));
                break;
            case 42:
                w = what(2);
                say("again(" + w + ")", x.again(w), o.again(w));
                break;
            default:
                w = what(10);
                say("count(" + w + ")", x.count(w), o.count(w));
                break;
        }
    }
}
