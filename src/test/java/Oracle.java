import java.math.BigInteger;
import java.util.ArrayList;
import java.util.List;

/**
 * The document, done once more in the slowest and most literal way: ways are walked one by one,
 * rows and orders are all tried. It shares no code and no idea with CoverOrder.
 */
final class Oracle {
    static final int UNKNOWN = -1, OUTSIDE = -2, STATE = -3, FULL = -4, NONE = -9;

    /** Knots and edges (from, to, stamp); copied whole wherever something is to be kept. */
    static final class Graph {
        int n = 1;
        int next = 1;
        List<int[]> edges = new ArrayList<>();

        Graph copy() {
            Graph other = new Graph();
            other.n = n;
            other.next = next;
            for (int[] e : edges) {
                other.edges.add(e.clone());
            }
            return other;
        }

        int find(int from, int to) {
            for (int i = 0; i < edges.size(); i++) {
                if (edges.get(i)[0] == from && edges.get(i)[1] == to) {
                    return i;
                }
            }
            return -1;
        }

        boolean has(int from, int to) {
            return find(from, to) >= 0;
        }

        void put(int from, int to) {
            edges.add(new int[] {from, to, next});
            next++;
        }

        boolean[] reached() {
            boolean[] reached = new boolean[10];
            reached[0] = true;
            boolean more = true;
            while (more) {
                more = false;
                for (int[] e : edges) {
                    if (reached[e[0]] && !reached[e[1]]) {
                        reached[e[1]] = true;
                        more = true;
                    }
                }
            }
            return reached;
        }

        int reachedCount() {
            int count = 0;
            for (boolean r : reached()) {
                count += r ? 1 : 0;
            }
            return count;
        }

        /** covers()[d][v], from all ways without a knot twice. */
        boolean[][] covers() {
            boolean[][] covers = new boolean[10][10];
            boolean[] reached = reached();
            for (int d = 0; d < n; d++) {
                for (int v = 0; v < n; v++) {
                    covers[d][v] = reached[d] && reached[v];
                }
            }
            walkAll(0, new boolean[10], covers);
            return covers;
        }

        private void walkAll(int at, boolean[] on, boolean[][] covers) {
            on[at] = true;
            for (int d = 0; d < n; d++) {
                if (!on[d]) {
                    covers[d][at] = false;
                }
            }
            for (int[] e : edges) {
                if (e[0] == at && !on[e[1]]) {
                    walkAll(e[1], on, covers);
                }
            }
            on[at] = false;
        }

        int depth(int v) {
            if (!reached()[v]) {
                return NONE;
            }
            boolean[][] covers = covers();
            int depth = 0;
            for (int d = 0; d < n; d++) {
                depth += d != v && covers[d][v] ? 1 : 0;
            }
            return depth;
        }

        int lid(int v) {
            return lid(v, covers());
        }

        /** The one that is covered by all others that cover v. */
        int lid(int v, boolean[][] covers) {
            for (int d = 0; d < n; d++) {
                boolean is = d != v && covers[d][v];
                for (int e = 0; e < n && is; e++) {
                    if (e != v && covers[e][v]) {
                        is = covers[e][d];
                    }
                }
                if (is) {
                    return d;
                }
            }
            return NONE;
        }

        int[] orders() {
            int[] orders = new int[10];
            java.util.Arrays.fill(orders, NONE);
            number(0, orders, new int[1]);
            return orders;
        }

        private void number(int at, int[] orders, int[] count) {
            orders[at] = count[0]++;
            for (int[] e : edges) {
                if (e[0] == at && orders[e[1]] == NONE) {
                    number(e[1], orders, count);
                }
            }
        }

        int half(int v) {
            int[] orders = orders();
            if (v == 0 || orders[v] == NONE) {
                return NONE;
            }
            int best = NONE;
            for (int u = 0; u < n; u++) {
                if (u != v && orders[u] != NONE && leadsLate(u, v, orders, new boolean[10])
                        && (best == NONE || orders[u] < orders[best])) {
                    best = u;
                }
            }
            return best;
        }

        private boolean leadsLate(int at, int v, int[] orders, boolean[] been) {
            been[at] = true;
            for (int[] e : edges) {
                if (e[0] == at) {
                    if (e[1] == v) {
                        return true;
                    }
                    if (!been[e[1]] && orders[e[1]] > orders[v] && leadsLate(e[1], v, orders, been)) {
                        return true;
                    }
                }
            }
            return false;
        }

        boolean isInRim(int v, int w) {
            boolean[][] covers = covers();
            for (int[] e : edges) {
                if (e[1] == w && covers[v][e[0]] && (!covers[v][w] || v == w)) {
                    return true;
                }
            }
            return false;
        }

        boolean isShown(List<Integer> row, int place, boolean[][] covers) {
            int v = row.get(place);
            if (has(lid(v, covers), v)) {
                return true;
            }
            boolean ahead = false;
            boolean behind = false;
            for (int i = 0; i < row.size(); i++) {
                int u = row.get(i);
                ahead |= i < place && has(u, v);
                behind |= i > place && has(u, v) && !covers[v][u];
            }
            return ahead && behind;
        }

        boolean isShowing(List<Integer> row) {
            boolean[][] covers = covers();
            for (int place = 1; place < row.size(); place++) {
                int v = row.get(place);
                if (row.indexOf(lid(v, covers)) > place || !isShown(row, place, covers)) {
                    return false;
                }
            }
            for (int place = 0; place < row.size(); place++) {
                int v = row.get(place);
                int inside = 0;
                for (int u = 0; u < n; u++) {
                    inside += covers[v][u] ? 1 : 0;
                }
                for (int i = place; i < place + inside; i++) {
                    if (!covers[v][row.get(i)]) {
                        return false;
                    }
                }
            }
            return true;
        }

        List<Integer> leastShowing() {
            List<Integer> row = new ArrayList<>();
            row.add(0);
            return permute(row) ? row : null;
        }

        private boolean permute(List<Integer> row) {
            boolean[] reached = reached();
            boolean whole = true;
            for (int v = 0; v < n; v++) {
                if (reached[v] && !row.contains(v)) {
                    whole = false;
                    row.add(v);
                    if (permute(row)) {
                        return true;
                    }
                    row.remove(row.size() - 1);
                }
            }
            return whole && isShowing(row);
        }
    }

    String text = "";
    Graph g = new Graph();
    List<Graph> acts = new ArrayList<>();
    Graph[] slots = new Graph[2];
    List<int[]> seen = new ArrayList<>();
    BigInteger seed = BigInteger.ZERO;

    boolean no(int knot) {
        return knot < 0 || knot >= g.n;
    }

    int write(int letter) {
        if (letter < 0 || letter > 255) {
            return OUTSIDE;
        }
        if (text.length() == 64) {
            return FULL;
        }
        text += (char) letter;
        return text.length();
    }

    int wipe() {
        int was = text.length();
        text = "";
        return was;
    }

    /** Can some graph begin with these letters? */
    static boolean begins(String t) {
        if (t.isEmpty()) {
            return true;
        }
        if (t.charAt(0) != 'D') {
            return false;
        }
        if (t.length() == 1) {
            return true;
        }
        if ("12345678".indexOf(t.charAt(1)) < 0) {
            return false;
        }
        String figures = "01234567".substring(0, t.charAt(1) - '0');
        List<String> edges = new ArrayList<>();
        for (int i = 2; i < t.length(); i += 2) {
            if (figures.indexOf(t.charAt(i)) < 0 || edges.size() == 24) {
                return false;
            }
            boolean some = false;
            for (int f = 0; f < figures.length(); f++) {
                String edge = "" + t.charAt(i) + figures.charAt(f);
                boolean can = edge.charAt(0) != edge.charAt(1) && !edges.contains(edge);
                some |= can && (i + 1 == t.length() || t.charAt(i + 1) == edge.charAt(1));
            }
            if (!some) {
                return false;
            }
            if (i + 1 < t.length()) {
                edges.add(t.substring(i, i + 2));
            }
        }
        return true;
    }

    int fault() {
        for (int i = 0; i < text.length(); i++) {
            if (!begins(text.substring(0, i + 1))) {
                return i;
            }
        }
        return text.length() < 2 || text.length() % 2 == 1 ? text.length() : NONE;
    }

    int graph() {
        if (fault() != NONE) {
            return STATE;
        }
        g = new Graph();
        g.n = text.charAt(1) - '0';
        for (int i = 2; i < text.length(); i += 2) {
            g.put(text.charAt(i) - '0', text.charAt(i + 1) - '0');
        }
        acts.clear();
        slots = new Graph[2];
        return g.edges.size();
    }

    private void act() {
        acts.add(g.copy());
        if (acts.size() > 14) {
            acts.remove(0);
        }
    }

    int insert(int from, int to) {
        if (no(from) || no(to)) {
            return UNKNOWN;
        }
        if (from == to) {
            return OUTSIDE;
        }
        if (g.has(from, to)) {
            return STATE;
        }
        if (g.edges.size() == 24) {
            return FULL;
        }
        act();
        g.put(from, to);
        return g.next - 1;
    }

    int delete(int from, int to) {
        if (no(from) || no(to)) {
            return UNKNOWN;
        }
        if (!g.has(from, to)) {
            return STATE;
        }
        act();
        return g.edges.remove(g.find(from, to))[2];
    }

    int undo() {
        if (acts.isEmpty()) {
            return STATE;
        }
        g = acts.remove(acts.size() - 1);
        return acts.size();
    }

    int stamp(int from, int to) {
        if (no(from) || no(to)) {
            return UNKNOWN;
        }
        return g.has(from, to) ? g.edges.get(g.find(from, to))[2] : NONE;
    }

    int edge(int i) {
        return i < 0 || i >= g.edges.size() ? NONE : 10 * g.edges.get(i)[0] + g.edges.get(i)[1];
    }

    int knot(int knot, int what) {
        if (no(knot)) {
            return UNKNOWN;
        }
        int bits = 0;
        switch (what) {
            case 0:
                return g.reached()[knot] ? 1 : 0;
            case 1:
                return g.lid(knot);
            case 2:
                return g.depth(knot);
            case 3:
                return g.orders()[knot];
            case 4:
                return g.half(knot);
            case 5:
                for (int v = 0; v < g.n; v++) {
                    bits += g.covers()[knot][v] ? 1 << v : 0;
                }
                return bits;
            case 6:
                for (int w = 0; w < g.n; w++) {
                    bits += g.isInRim(knot, w) ? 1 << w : 0;
                }
                return bits;
            default:
                return OUTSIDE;
        }
    }

    int nearest(int one, int other) {
        if (no(one) || no(other)) {
            return UNKNOWN;
        }
        if (!g.reached()[one] || !g.reached()[other]) {
            return STATE;
        }
        int best = 0;
        boolean[][] covers = g.covers();
        for (int d = 0; d < g.n; d++) {
            if (covers[d][one] && covers[d][other] && g.depth(d) > g.depth(best)) {
                best = d;
            }
        }
        return best;
    }

    int would(int from, int to) {
        if (no(from) || no(to)) {
            return UNKNOWN;
        }
        if (from == to) {
            return OUTSIDE;
        }
        if (!g.has(from, to) && g.edges.size() == 24) {
            return FULL;
        }
        Graph then = g.copy();
        if (then.has(from, to)) {
            then.edges.remove(then.find(from, to));
        } else {
            then.put(from, to);
        }
        int bits = 0;
        for (int v = 0; v < g.n; v++) {
            boolean unlike = g.reached()[v] != then.reached()[v] || g.lid(v) != then.lid(v);
            bits += unlike ? 1 << v : 0;
        }
        return bits;
    }

    int showing(int i) {
        if (i < 0 || i >= g.reachedCount()) {
            return NONE;
        }
        return g.leastShowing().get(i);
    }

    int look(long row) {
        int r = g.reachedCount();
        if (row < 0 || Long.toString(row).length() > r) {
            return OUTSIDE;
        }
        String figures = "0".repeat(r - Long.toString(row).length()) + row;
        boolean[][] covers = g.covers();
        List<Integer> told = new ArrayList<>();
        for (int i = 0; i < r; i++) {
            int k = figures.charAt(i) - '0';
            boolean wrong = k >= g.n || !g.reached()[k] || told.contains(k) || i == 0 && k != 0
                    || i > 0 && !covers[g.lid(k)][told.get(i - 1)];
            if (wrong) {
                return i;
            }
            told.add(k);
        }
        for (int i = 1; i < r; i++) {
            if (!g.isShown(told, i, covers)) {
                return i;
            }
        }
        return NONE;
    }

    int judge(int n, long row) {
        if (n < 1 || n > 4 || row < 0 || Long.toString(row).length() > 3 * n) {
            return OUTSIDE;
        }
        String figures = "0".repeat(3 * n - Long.toString(row).length()) + row;
        Graph g = this.g.copy();
        for (int i = 0; i < n; i++) {
            int a = figures.charAt(3 * i + 1) - '0';
            int b = figures.charAt(3 * i + 2) - '0';
            boolean knotA = a < g.n;
            boolean knots = knotA && b < g.n;
            boolean so = false;
            switch (figures.charAt(3 * i)) {
                case '1':
                    so = knots && a != b && !g.has(a, b) && g.edges.size() < 24;
                    if (so) {
                        g.put(a, b);
                    }
                    break;
                case '2':
                    so = knots && g.has(a, b);
                    if (so) {
                        g.edges.remove(g.find(a, b));
                    }
                    break;
                case '3':
                    so = knots && g.covers()[a][b];
                    break;
                case '4':
                    so = knots && g.lid(b) == a;
                    break;
                case '5':
                    so = knotA && g.depth(a) == b;
                    break;
                case '6':
                    so = knots && g.half(b) == a;
                    break;
                case '7':
                    so = knots && g.isInRim(a, b);
                    break;
                case '8':
                    so = a == 0 && g.reachedCount() >= b;
                    break;
                default:
                    break;
            }
            if (!so) {
                return i;
            }
        }
        return NONE;
    }

    int see(int v, int u, int had) {
        if (v < 0 || v > 7 || u < 0 || u > 7 || had < 0 || had > 1) {
            return OUTSIDE;
        }
        if (seen.size() == 6) {
            return FULL;
        }
        seen.add(new int[] {v, u, had});
        return seen.size();
    }

    int unsee() {
        int was = seen.size();
        seen.clear();
        return was;
    }

    int missing(int what) {
        if (what < 0 || what > 1) {
            return OUTSIDE;
        }
        if (g.edges.size() == 24) {
            return FULL;
        }
        List<Integer> found = new ArrayList<>();
        for (int pair = 0; pair < 78; pair++) {
            int from = pair / 10;
            int to = pair % 10;
            if (no(from) || no(to) || from == to || g.has(from, to)) {
                continue;
            }
            Graph more = g.copy();
            more.put(from, to);
            boolean[][] covers = more.covers();
            boolean all = true;
            for (int[] s : seen) {
                all &= (s[0] < g.n && more.lid(s[0], covers) == s[1]) == (s[2] == 1);
            }
            if (all) {
                found.add(pair);
            }
        }
        return what == 0 ? found.size() : found.isEmpty() ? NONE : found.get(0);
    }

    private static int fraction(long above, long below, boolean upper) {
        BigInteger a = BigInteger.valueOf(above);
        BigInteger b = BigInteger.valueOf(below);
        BigInteger d = a.gcd(b);
        return (upper ? a : b).divide(d).intValueExact();
    }

    int share(int from, int to, boolean upper) {
        if (no(from) || no(to)) {
            return UNKNOWN;
        }
        if (!g.has(from, to)) {
            return STATE;
        }
        Graph bare = g.copy();
        List<int[]> own = new ArrayList<>();
        for (int[] e : g.edges) {
            if (e[0] == from) {
                own.add(e);
                bare.edges.remove(bare.find(e[0], e[1]));
            }
        }
        long[] sum = new long[2];
        order(bare, own, to, sum);
        return fraction(sum[0], sum[1], upper);
    }

    /** Lets the edges come in every order; sum: what was gained together, how many orders. */
    private void order(Graph sofar, List<int[]> rest, int to, long[] sum) {
        if (rest.isEmpty()) {
            sum[1]++;
        }
        for (int i = 0; i < rest.size(); i++) {
            List<int[]> others = new ArrayList<>(rest);
            int[] e = others.remove(i);
            Graph then = sofar.copy();
            then.put(e[0], e[1]);
            if (e[1] == to) {
                long gain = then.reachedCount() - sofar.reachedCount();
                long orders = 1;
                for (int k = 2; k <= others.size(); k++) {
                    orders *= k;
                }
                sum[0] += gain * orders;
            }
            order(then, others, to, sum);
        }
    }

    int spared(int knot, int v, int x, boolean upper) {
        if (no(knot)) {
            return UNKNOWN;
        }
        if (v < 0 || v > 8 || x < 0 || x > 10) {
            return OUTSIDE;
        }
        long above = fail(g.copy(), knot, 0, v, x);
        long below = 1;
        for (int[] e : g.edges) {
            below *= e[0] == knot ? 10 : 1;
        }
        return fraction(above, below, upper);
    }

    private long fail(Graph h, int knot, int from, int v, int x) {
        for (int i = from; i < h.edges.size(); i++) {
            if (h.edges.get(i)[0] == knot) {
                Graph without = h.copy();
                without.edges.remove(i);
                return (10 - x) * fail(h, knot, i + 1, v, x) + x * fail(without, knot, i, v, x);
            }
        }
        return h.reachedCount() >= v ? 1 : 0;
    }

    long seed(long v) {
        long was = seed.longValue();
        seed = BigInteger.valueOf(v);
        return was;
    }

    int drawn(int m) {
        if (m < 1 || m > 20) {
            return OUTSIDE;
        }
        Graph h = g.copy();
        BigInteger all = BigInteger.ONE.shiftLeft(64);
        int sum = 0;
        for (int i = 0; i < m; i++) {
            seed = seed.multiply(new BigInteger("6364136223846793005"))
                    .add(new BigInteger("1442695040888963407")).mod(all);
            int upper = seed.shiftRight(33).intValueExact();
            int from = upper % h.n;
            int to = (upper / 8) % h.n;
            if (from != to) {
                if (h.has(from, to)) {
                    h.edges.remove(h.find(from, to));
                } else if (h.edges.size() < 24) {
                    h.put(from, to);
                }
            }
            sum += depths(h);
        }
        return sum;
    }

    private static int depths(Graph h) {
        int sum = 0;
        for (int v = 0; v < h.n; v++) {
            sum += h.reached()[v] ? h.depth(v) : 0;
        }
        return sum;
    }

    int keep(int slot) {
        if (slot != 0 && slot != 1) {
            return UNKNOWN;
        }
        slots[slot] = g.copy();
        return g.edges.size();
    }

    int again(int slot) {
        if (slot != 0 && slot != 1) {
            return UNKNOWN;
        }
        if (slots[slot] == null) {
            return STATE;
        }
        g = slots[slot].copy();
        acts.clear();
        return g.edges.size();
    }

    int count(int what) {
        int most = 0;
        int between = 0;
        switch (what) {
            case 0:
                return text.length();
            case 1:
                return g.n;
            case 2:
                return g.edges.size();
            case 3:
                return g.reachedCount();
            case 4:
                return depths(g);
            case 5:
                for (int v = 0; v < g.n; v++) {
                    most = Math.max(most, g.depth(v));
                }
                return most;
            case 6:
                return g.next;
            case 7:
                for (int[] e : g.edges) {
                    between += g.reached()[e[0]] && g.reached()[e[1]] ? 1 : 0;
                }
                return between;
            case 8:
                return acts.size();
            case 9:
                return seen.size();
            default:
                return OUTSIDE;
        }
    }
}
