/**
 * A graph of knots with a root, edited edge by edge, and what its covers tell.
 *
 * <p>What each call answers is told in DOC.md, promise by promise. Sets of knots are bits of an
 * int, and a set for each knot is a grid: eight lines of eight bits in one long.
 */
public final class CoverOrder {
    public static final int UNKNOWN = -1, OUTSIDE = -2, STATE = -3, FULL = -4, NONE = -9;

    private static final int MOST_LETTERS = 64;
    private static final int MOST_KNOTS = 8;
    private static final int MOST_EDGES = 24;
    private static final int MOST_ACTS = 14;
    private static final int MOST_DOINGS = 4;
    private static final int FIGURES_OF_A_DOING = 3;
    private static final int MOST_SEEN = 6;
    private static final int MOST_DRAWN = 20;
    private static final int ALL_TENTHS = 10;
    private static final int ROOT = 0;
    private static final long SEED_FACTOR = 6364136223846793005L;
    private static final long SEED_STEP = 1442695040888963407L;

    private final Text text;
    private final Edges edges;
    /** What is tried on a copy, so that nothing is changed. */
    private final Edges trial;
    private final Acts acts;
    private final Edges[] slots;
    /** A sight is one number: 100 times had, 10 times the knot, and its lid. */
    private final Row seen;
    private final Covers covers;
    private final Covers trialCovers;
    private final Walk walk;
    private final Showing least;
    private final Row told;
    private int keptSlots;
    private long theSeed;

    public CoverOrder() {
        text = new Text();
        edges = new Edges();
        trial = new Edges();
        acts = new Acts();
        slots = new Edges[] {new Edges(), new Edges()};
        seen = new Row(MOST_SEEN);
        covers = new Covers();
        trialCovers = new Covers();
        walk = new Walk();
        least = new Showing();
        told = new Row(MOST_KNOTS);
    }

    // ---- the graph

    public int write(int letter) {
        if (letter < 0 || letter > 255) {
            return OUTSIDE;
        }
        if (text.isFull()) {
            return FULL;
        }
        text.add(letter);
        return text.length();
    }

    public int wipe() {
        int length = text.length();
        text.clear();
        return length;
    }

    public int fault() {
        return text.firstFault();
    }

    public int graph() {
        if (text.firstFault() != NONE) {
            return STATE;
        }
        text.readInto(edges);
        acts.clear();
        keptSlots = 0;
        return edges.size();
    }

    // ---- acts

    public int insert(int from, int to) {
        if (!edges.areKnots(from, to)) {
            return UNKNOWN;
        }
        if (from == to) {
            return OUTSIDE;
        }
        if (edges.has(from, to)) {
            return STATE;
        }
        if (edges.isFull()) {
            return FULL;
        }
        int given = edges.append(from, to);
        acts.addInserted();
        return given;
    }

    public int delete(int from, int to) {
        if (!edges.areKnots(from, to)) {
            return UNKNOWN;
        }
        if (!edges.has(from, to)) {
            return STATE;
        }
        int place = edges.placeOf(from, to);
        int edge = edges.takeOut(place);
        acts.addDeleted(place, edge);
        return Edges.stampOf(edge);
    }

    public int undo() {
        if (acts.size() == 0) {
            return STATE;
        }
        acts.undoLast(edges);
        return acts.size();
    }

    // ---- edges

    public int stamp(int from, int to) {
        if (!edges.areKnots(from, to)) {
            return UNKNOWN;
        }
        return edges.has(from, to) ? Edges.stampOf(edges.at(edges.placeOf(from, to))) : NONE;
    }

    public int edge(int i) {
        return i >= 0 && i < edges.size() ? Edges.pairOf(edges.at(i)) : NONE;
    }

    // ---- covers

    public int knot(int knot, int what) {
        if (!edges.isKnot(knot)) {
            return UNKNOWN;
        }
        learnCovers();
        switch (what) {
            case 0:
                return covers.isReached(knot) ? 1 : 0;
            case 1:
                return covers.lidOf(knot);
            case 2:
                return covers.depthOf(knot);
            case 3:
                walk.go(edges);
                return walk.orderOf(knot);
            case 4:
                walk.go(edges);
                return walk.halfOf(knot);
            case 5:
                return covers.coveredBy(knot);
            case 6:
                return covers.rimOf(knot);
            default:
                return OUTSIDE;
        }
    }

    public int nearest(int one, int other) {
        if (!edges.areKnots(one, other)) {
            return UNKNOWN;
        }
        learnCovers();
        if (!covers.isReached(one) || !covers.isReached(other)) {
            return STATE;
        }
        return covers.coveredByJust(covers.coverersOf(one) & covers.coverersOf(other));
    }

    public int would(int from, int to) {
        if (!edges.areKnots(from, to)) {
            return UNKNOWN;
        }
        if (from == to) {
            return OUTSIDE;
        }
        if (!edges.has(from, to) && edges.isFull()) {
            return FULL;
        }
        learnCovers();
        trialCovers.learn(Grid.flipped(edges.grid(), from, to));
        return covers.changedIn(trialCovers);
    }

    // ---- showings

    public int showing(int i) {
        learnCovers();
        if (i < 0 || i >= covers.reachedCount()) {
            return NONE;
        }
        least.find(covers);
        return least.knotAt(i);
    }

    public int look(long row) {
        learnCovers();
        int length = covers.reachedCount();
        if (!Figures.fit(row, length)) {
            return OUTSIDE;
        }
        told.clear();
        for (int place = 0; place < length; place++) {
            told.add(Figures.at(row, place, length));
        }
        int place = covers.firstMisplaced(told);
        return place != NONE ? place : covers.firstNotShown(told);
    }

    public int judge(int n, long row) {
        if (n < 1 || n > MOST_DOINGS) {
            return OUTSIDE;
        }
        int length = FIGURES_OF_A_DOING * n;
        if (!Figures.fit(row, length)) {
            return OUTSIDE;
        }
        trial.copy(edges);
        for (int place = 0; place < n; place++) {
            int start = FIGURES_OF_A_DOING * place;
            int doing = Figures.at(row, start, length);
            int one = Figures.at(row, start + 1, length);
            int other = Figures.at(row, start + 2, length);
            if (!isDoneOrSo(doing, one, other)) {
                return place;
            }
        }
        return NONE;
    }

    // ---- seen

    public int see(int v, int u, int had) {
        if (v < 0 || v >= MOST_KNOTS || u < 0 || u >= MOST_KNOTS || had < 0 || had > 1) {
            return OUTSIDE;
        }
        if (seen.isFull()) {
            return FULL;
        }
        seen.add(100 * had + 10 * v + u);
        return seen.size();
    }

    public int unsee() {
        int size = seen.size();
        seen.clear();
        return size;
    }

    public int missing(int what) {
        if (what != 0 && what != 1) {
            return OUTSIDE;
        }
        if (edges.isFull()) {
            return FULL;
        }
        int found = 0;
        int first = NONE;
        for (int from = 0; from < edges.knots; from++) {
            for (int to = 0; to < edges.knots; to++) {
                if (mayBeMissing(from, to)) {
                    first = found == 0 ? Edges.pair(from, to) : first;
                    found++;
                }
            }
        }
        return what == 0 ? found : first;
    }

    // ---- shares, chances

    public int share(int from, int to, boolean upper) {
        if (!edges.areKnots(from, to)) {
            return UNKNOWN;
        }
        if (!edges.has(from, to)) {
            return STATE;
        }
        long grid = edges.grid();
        int above = Chances.gainInAllOrders(grid, from, to);
        int below = Chances.factorial(Integer.bitCount(Grid.line(grid, from)));
        return Chances.inLeastTerms(above, below, upper);
    }

    public int spared(int knot, int v, int x, boolean upper) {
        if (!edges.isKnot(knot)) {
            return UNKNOWN;
        }
        if (v < 0 || v > MOST_KNOTS || x < 0 || x > ALL_TENTHS) {
            return OUTSIDE;
        }
        long grid = edges.grid();
        int above = Chances.weightOfReaching(grid, knot, v, x);
        int below = Chances.power(ALL_TENTHS, Integer.bitCount(Grid.line(grid, knot)));
        return Chances.inLeastTerms(above, below, upper);
    }

    public long seed(long v) {
        long was = theSeed;
        theSeed = v;
        return was;
    }

    public int drawn(int m) {
        if (m < 1 || m > MOST_DRAWN) {
            return OUTSIDE;
        }
        trial.copy(edges);
        int sum = 0;
        for (int time = 0; time < m; time++) {
            theSeed = theSeed * SEED_FACTOR + SEED_STEP;
            trial.turnDrawn((int) (theSeed >>> 33));
            trialCovers.learn(trial.grid());
            sum += trialCovers.depthSum();
        }
        return sum;
    }

    // ---- slots

    public int keep(int slot) {
        Edges kept = slotAt(slot);
        if (kept == null) {
            return UNKNOWN;
        }
        kept.copy(edges);
        keptSlots |= Grid.only(slot);
        return kept.size();
    }

    public int again(int slot) {
        Edges kept = slotAt(slot);
        if (kept == null) {
            return UNKNOWN;
        }
        if (!Grid.isIn(keptSlots, slot)) {
            return STATE;
        }
        edges.copy(kept);
        acts.clear();
        return edges.size();
    }

    public int count(int what) {
        switch (what) {
            case 0:
                return text.length();
            case 1:
                return edges.knots;
            case 2:
                return edges.size();
            case 6:
                return edges.nextStamp;
            case 8:
                return acts.size();
            case 9:
                return seen.size();
            default:
                return countCovers(what);
        }
    }

    // ---- what the calls share

    private void learnCovers() {
        covers.learn(edges.grid());
    }

    private int countCovers(int what) {
        learnCovers();
        switch (what) {
            case 3:
                return covers.reachedCount();
            case 4:
                return covers.depthSum();
            case 5:
                return covers.greatestDepth();
            case 7:
                return edges.countBetween(covers.reached);
            default:
                return OUTSIDE;
        }
    }

    private Edges slotAt(int slot) {
        return slot >= 0 && slot < slots.length ? slots[slot] : null;
    }

    private boolean isDoneOrSo(int doing, int one, int other) {
        trialCovers.learn(trial.grid());
        if (doing == 8) {
            return one == 0 && trialCovers.reachedCount() >= other;
        }
        if (doing == 5) {
            return trial.isKnot(one) && trialCovers.depthOf(one) == other;
        }
        if (!trial.areKnots(one, other)) {
            return false;
        }
        switch (doing) {
            case 1:
                return trial.insertIfItCanBe(one, other);
            case 2:
                return trial.deleteIfItIsThere(one, other);
            case 3:
                return Grid.isIn(trialCovers.coveredBy(one), other);
            case 4:
                return trialCovers.lidOf(other) == one;
            case 6:
                walk.go(trial);
                return walk.halfOf(other) == one;
            case 7:
                return Grid.isIn(trialCovers.rimOf(one), other);
            default:
                return false;
        }
    }

    private boolean mayBeMissing(int from, int to) {
        if (from == to || edges.has(from, to)) {
            return false;
        }
        trialCovers.learn(Grid.flipped(edges.grid(), from, to));
        return isAllSeenIn(trialCovers);
    }

    private boolean isAllSeenIn(Covers tried) {
        for (int i = 0; i < seen.size(); i++) {
            int sight = seen.at(i);
            boolean had = sight / 100 == 1;
            boolean has = tried.lidOf(sight / 10 % 10) == sight % 10;
            if (has != had) {
                return false;
            }
        }
        return true;
    }

    /** Numbers in a fixed room. Nearly all indexing is done here, so it is tested once for all. */
    private static final class Row {
        private final int[] items;
        private int size;

        Row(int room) {
            items = new int[Math.max(room, 0)];
        }

        int size() {
            return size;
        }

        boolean isFull() {
            return size >= items.length;
        }

        void clear() {
            size = 0;
        }

        int at(int place) {
            return place >= 0 && place < size && place < items.length ? items[place] : NONE;
        }

        int placeOf(int item) {
            for (int place = 0; place < size; place++) {
                if (at(place) == item) {
                    return place;
                }
            }
            return NONE;
        }

        void add(int item) {
            putIn(size, item);
        }

        void putIn(int place, int item) {
            if (place < 0 || place > size || isFull()) {
                return;
            }
            for (int i = size; i > place; i--) {
                items[i] = items[i - 1];
            }
            items[place] = item;
            size++;
        }

        int takeOut(int place) {
            if (place < 0 || place >= size || size > items.length) {
                return NONE;
            }
            int item = items[place];
            size--;
            for (int i = place; i < size; i++) {
                items[i] = items[i + 1];
            }
            return item;
        }

        int takeLast() {
            return takeOut(size - 1);
        }

        void copy(Row other) {
            clear();
            for (int place = 0; place < other.size; place++) {
                add(other.at(place));
            }
        }
    }

    /** Figures of a told number, the highest first, with zeros ahead of it to the told length. */
    private static final class Figures {
        static boolean fit(long number, int length) {
            long rest = number;
            for (int i = 0; i < length; i++) {
                rest /= 10;
            }
            return number >= 0 && rest == 0;
        }

        static int at(long number, int place, int length) {
            long rest = number;
            for (int i = place + 1; i < length; i++) {
                rest /= 10;
            }
            return (int) (rest % 10);
        }
    }

    /** Sets of knots, and grids of them: line k of a grid is the set that belongs to knot k. */
    private static final class Grid {
        static int only(int knot) {
            return 1 << knot;
        }

        static boolean isIn(int set, int knot) {
            return knot >= 0 && knot < MOST_KNOTS && (set >>> knot & 1) == 1;
        }

        /** The least knot of a set that is not empty. */
        static int first(int set) {
            return Integer.bitCount((set & -set) - 1);
        }

        static int line(long grid, int knot) {
            return (int) (grid >>> MOST_KNOTS * knot) & 255;
        }

        static long withLine(long grid, int knot, int set) {
            int shift = MOST_KNOTS * knot;
            return grid & ~(255L << shift) | (long) set << shift;
        }

        static long flipped(long grid, int knot, int member) {
            return grid ^ 1L << MOST_KNOTS * knot + member;
        }

        /** The knots in whose lines the member stands. */
        static int column(long grid, int member) {
            int set = 0;
            for (int knot = 0; knot < MOST_KNOTS; knot++) {
                if (isIn(line(grid, knot), member)) {
                    set |= only(knot);
                }
            }
            return set;
        }

        static long turned(long grid) {
            long turned = 0;
            for (int knot = 0; knot < MOST_KNOTS; knot++) {
                turned = withLine(turned, knot, column(grid, knot));
            }
            return turned;
        }

        /** Where ways from the root lead that touch no knot of the shut ones. */
        static int reached(long grid, int shut) {
            int found = only(ROOT) & ~shut;
            int open = found;
            for (int step = 0; step < MOST_KNOTS && open != 0; step++) {
                int knot = first(open);
                int fresh = line(grid, knot) & ~found & ~shut;
                found |= fresh;
                open = open & ~only(knot) | fresh;
            }
            return found;
        }
    }

    /** The text, and what it says as a graph: D, the number of knots, then pairs of figures. */
    private static final class Text {
        private final Row letters = new Row(MOST_LETTERS);

        int length() {
            return letters.size();
        }

        boolean isFull() {
            return letters.isFull();
        }

        void add(int letter) {
            letters.add(letter);
        }

        void clear() {
            letters.clear();
        }

        int firstFault() {
            long grid = 0;
            for (int place = 0; place < length(); place++) {
                if (!fits(place, grid)) {
                    return place;
                }
                if (isSecondFigure(place)) {
                    grid = Grid.flipped(grid, figureAt(place - 1), figureAt(place));
                }
            }
            boolean ended = length() >= 2 && length() % 2 == 0;
            return ended ? NONE : length();
        }

        void readInto(Edges edges) {
            edges.restart(figureAt(1));
            for (int place = 3; place < length(); place += 2) {
                edges.append(figureAt(place - 1), figureAt(place));
            }
        }

        /** Whether a graph can go on with this letter, behind the edges of the grid. */
        private boolean fits(int place, long grid) {
            if (place == 0) {
                return letters.at(0) == 'D';
            }
            int figure = figureAt(place);
            if (place == 1) {
                return figure >= 1 && figure <= MOST_KNOTS;
            }
            int knots = figureAt(1);
            if (figure < 0 || figure >= knots) {
                return false;
            }
            if (isSecondFigure(place)) {
                int from = figureAt(place - 1);
                return figure != from && !Grid.isIn(Grid.line(grid, from), figure);
            }
            boolean goesToAll = Integer.bitCount(Grid.line(grid, figure)) >= knots - 1;
            return !goesToAll && Long.bitCount(grid) < MOST_EDGES;
        }

        private static boolean isSecondFigure(int place) {
            return place >= 3 && place % 2 == 1;
        }

        private int figureAt(int place) {
            int letter = letters.at(place);
            return letter >= '0' && letter <= '9' ? letter - '0' : NONE;
        }
    }

    /** Knots and the row of edges; an edge is 100 times its stamp, 10 times from, and to. */
    private static final class Edges {
        private final Row row = new Row(MOST_EDGES);
        private int knots = 1;
        private int nextStamp = 1;

        static int pair(int from, int to) {
            return 10 * from + to;
        }

        static int pairOf(int edge) {
            return edge % 100;
        }

        static int stampOf(int edge) {
            return edge / 100;
        }

        void restart(int count) {
            knots = Math.max(1, Math.min(count, MOST_KNOTS));
            row.clear();
            nextStamp = 1;
        }

        void copy(Edges other) {
            knots = other.knots;
            row.copy(other.row);
            nextStamp = other.nextStamp;
        }

        int size() {
            return row.size();
        }

        boolean isFull() {
            return row.isFull();
        }

        boolean isKnot(int knot) {
            return knot >= 0 && knot < knots;
        }

        boolean areKnots(int one, int other) {
            return isKnot(one) && isKnot(other);
        }

        int at(int place) {
            return row.at(place);
        }

        int placeOf(int from, int to) {
            for (int place = 0; place < row.size(); place++) {
                if (pairOf(row.at(place)) == pair(from, to)) {
                    return place;
                }
            }
            return NONE;
        }

        boolean has(int from, int to) {
            return placeOf(from, to) != NONE;
        }

        int append(int from, int to) {
            int given = nextStamp;
            row.add(100 * given + pair(from, to));
            nextStamp++;
            return given;
        }

        int takeOut(int place) {
            return row.takeOut(place);
        }

        void putBack(int place, int edge) {
            row.putIn(place, edge);
        }

        /** As if the last edge had never come: its stamp is free again. */
        void takeBackLast() {
            row.takeLast();
            nextStamp--;
        }

        boolean insertIfItCanBe(int from, int to) {
            boolean can = from != to && !has(from, to) && !isFull();
            if (can) {
                append(from, to);
            }
            return can;
        }

        boolean deleteIfItIsThere(int from, int to) {
            boolean there = has(from, to);
            if (there) {
                takeOut(placeOf(from, to));
            }
            return there;
        }

        /** Deletes or inserts the edge that a drawn number (0 or more) names. */
        void turnDrawn(int number) {
            if (knots < 1) {
                return;
            }
            int from = number % knots;
            int to = number / 8 % knots;
            if (from != to && !deleteIfItIsThere(from, to)) {
                insertIfItCanBe(from, to);
            }
        }

        /** Where an edge from a reached knot leads is reached, too. */
        int countBetween(int reached) {
            int found = 0;
            for (int place = 0; place < row.size(); place++) {
                if (Grid.isIn(reached, pairOf(row.at(place)) / 10)) {
                    found++;
                }
            }
            return found;
        }

        /** Line k: where the edges from knot k lead. */
        long grid() {
            long grid = 0;
            for (int place = 0; place < row.size(); place++) {
                int pair = pairOf(row.at(place));
                grid = Grid.flipped(grid, pair / 10, pair % 10);
            }
            return grid;
        }

        /** Where the first edge from the knot leads that leads to none of the set. */
        int firstWayOn(int from, int set) {
            for (int place = 0; place < row.size(); place++) {
                int pair = pairOf(row.at(place));
                if (pair / 10 == from && !Grid.isIn(set, pair % 10)) {
                    return pair % 10;
                }
            }
            return NONE;
        }
    }

    /** What was done last: the deleted edge and where it stood, or NONE for an inserted one. */
    private static final class Acts {
        private final Row deleted = new Row(MOST_ACTS);
        private final Row places = new Row(MOST_ACTS);

        int size() {
            return places.size();
        }

        void clear() {
            deleted.clear();
            places.clear();
        }

        void addInserted() {
            addDeleted(NONE, NONE);
        }

        void addDeleted(int place, int edge) {
            if (places.isFull()) {
                places.takeOut(0);
                deleted.takeOut(0);
            }
            places.add(place);
            deleted.add(edge);
        }

        void undoLast(Edges edges) {
            int place = places.takeLast();
            int edge = deleted.takeLast();
            if (place == NONE) {
                edges.takeBackLast();
            } else {
                edges.putBack(place, edge);
            }
        }
    }

    /** Who covers whom in one grid of edges. */
    private static final class Covers {
        private long grid;
        private long covered;
        private long coverers;
        private int reached;

        /** A knot covers what is no longer reached when it is shut. */
        void learn(long edges) {
            grid = edges;
            reached = Grid.reached(edges, 0);
            covered = 0;
            for (int knot = 0; knot < MOST_KNOTS; knot++) {
                if (isReached(knot)) {
                    int left = Grid.reached(edges, Grid.only(knot));
                    covered = Grid.withLine(covered, knot, reached & ~left);
                }
            }
            coverers = Grid.turned(covered);
        }

        boolean isReached(int knot) {
            return Grid.isIn(reached, knot);
        }

        int reachedCount() {
            return Integer.bitCount(reached);
        }

        int coveredBy(int knot) {
            return Grid.line(covered, knot);
        }

        int coverersOf(int knot) {
            return Grid.line(coverers, knot);
        }

        /** The knot that just these cover: the deepest of them, as the others all cover it. */
        int coveredByJust(int set) {
            for (int knot = 0; knot < MOST_KNOTS; knot++) {
                if (set != 0 && Grid.line(coverers, knot) == set) {
                    return knot;
                }
            }
            return NONE;
        }

        int lidOf(int knot) {
            return coveredByJust(coverersOf(knot) & ~Grid.only(knot));
        }

        int depthOf(int knot) {
            return isReached(knot) ? Integer.bitCount(coverersOf(knot)) - 1 : NONE;
        }

        int depthSum() {
            int sum = 0;
            for (int knot = 0; knot < MOST_KNOTS; knot++) {
                sum += Math.max(depthOf(knot), 0);
            }
            return sum;
        }

        int greatestDepth() {
            int greatest = 0;
            for (int knot = 0; knot < MOST_KNOTS; knot++) {
                greatest = Math.max(greatest, depthOf(knot));
            }
            return greatest;
        }

        int rimOf(int knot) {
            int inside = coveredBy(knot);
            int entered = 0;
            for (int from = 0; from < MOST_KNOTS; from++) {
                if (Grid.isIn(inside, from)) {
                    entered |= Grid.line(grid, from);
                }
            }
            return entered & (~inside | Grid.only(knot));
        }

        /** Knots that are reached in one of both alone, or have another lid. */
        int changedIn(Covers other) {
            int changed = reached ^ other.reached;
            for (int knot = 0; knot < MOST_KNOTS; knot++) {
                if (lidOf(knot) != other.lidOf(knot)) {
                    changed |= Grid.only(knot);
                }
            }
            return changed;
        }

        /** Whether edges alone show the lid of a knot that stands directly behind those ahead. */
        boolean isShown(int knot, int ahead) {
            int from = Grid.column(grid, knot) & reached;
            int behind = reached & ~ahead & ~coveredBy(knot);
            return Grid.isIn(from, lidOf(knot)) || (from & ahead) != 0 && (from & behind) != 0;
        }

        /** What may stand behind the placed ones, so that what a knot covers stays together. */
        int nextBehind(int placed) {
            int next = reached & ~placed;
            for (int knot = 0; knot < MOST_KNOTS; knot++) {
                boolean unended = Grid.isIn(placed, knot) && (coveredBy(knot) & ~placed) != 0;
                if (unended) {
                    next &= coveredBy(knot);
                } else if (!Grid.isIn(placed, lidOf(knot))) {
                    next &= ~Grid.only(knot);
                }
            }
            return next;
        }

        int firstMisplaced(Row told) {
            int ahead = 0;
            for (int place = 0; place < told.size(); place++) {
                int knot = told.at(place);
                boolean fresh = isReached(knot) && !Grid.isIn(ahead, knot);
                if (!fresh || !isInPlace(knot, place, told)) {
                    return place;
                }
                ahead |= Grid.only(knot);
            }
            return NONE;
        }

        /** For a reached knot that stands nowhere ahead; so at place 0 alone it can be the root. */
        private boolean isInPlace(int knot, int place, Row told) {
            if (place == 0 || knot == ROOT) {
                return place == 0 && knot == ROOT;
            }
            return Grid.isIn(coveredBy(lidOf(knot)), told.at(place - 1));
        }

        int firstNotShown(Row told) {
            int ahead = 0;
            for (int place = 0; place < told.size(); place++) {
                int knot = told.at(place);
                if (knot != ROOT && !isShown(knot, ahead)) {
                    return place;
                }
                ahead |= Grid.only(knot);
            }
            return NONE;
        }
    }

    /** The walk by depth: the knots in the order in which one comes to them. */
    private static final class Walk {
        private final Row met = new Row(MOST_KNOTS);
        private final Row path = new Row(MOST_KNOTS);
        private long grid;

        void go(Edges edges) {
            grid = edges.grid();
            met.clear();
            path.clear();
            met.add(ROOT);
            path.add(ROOT);
            int found = Grid.only(ROOT);
            // Each knot is come to once and left once.
            for (int step = 0; step < 2 * MOST_KNOTS && path.size() > 0; step++) {
                int next = edges.firstWayOn(path.at(path.size() - 1), found);
                if (next == NONE) {
                    path.takeLast();
                } else {
                    met.add(next);
                    path.add(next);
                    found |= Grid.only(next);
                }
            }
        }

        int orderOf(int knot) {
            return met.placeOf(knot);
        }

        int halfOf(int knot) {
            if (orderOf(knot) == NONE || knot == ROOT) {
                return NONE;
            }
            int starts = startsOfLateWays(knot);
            for (int order = 0; order < met.size(); order++) {
                if (Grid.isIn(starts, met.at(order))) {
                    return met.at(order);
                }
            }
            return NONE;
        }

        /** Backwards from the knot, on and on only where one came later than to the knot. */
        private int startsOfLateWays(int knot) {
            int starts = Grid.column(grid, knot);
            int open = starts;
            for (int step = 0; step < MOST_KNOTS && open != 0; step++) {
                int here = Grid.first(open);
                int fresh = orderOf(here) > orderOf(knot) ? Grid.column(grid, here) & ~starts : 0;
                starts |= fresh;
                open = open & ~Grid.only(here) | fresh;
            }
            return starts;
        }
    }

    /** The least row of the reached knots by which edges alone show each lid. */
    private static final class Showing {
        private final Row row = new Row(MOST_KNOTS);
        private final Row deadEnds = new Row(1 << MOST_KNOTS - 1);

        void find(Covers covers) {
            row.clear();
            deadEnds.clear();
            row.add(ROOT);
            fill(this, covers, Grid.only(ROOT), 1);
        }

        int knotAt(int place) {
            return row.at(place);
        }

        /**
         * Goes on behind the placed ones, the least knot first. What can follow hangs only on which
         * are placed, so a set that failed once is not tried again.
         */
        private static boolean fill(Showing to, Covers covers, int placed, int deep) {
            if (placed == covers.reached) {
                return true;
            }
            if (deep >= MOST_KNOTS || to.deadEnds.placeOf(placed) != NONE) {
                return false;
            }
            int next = covers.nextBehind(placed);
            for (int knot = 0; knot < MOST_KNOTS; knot++) {
                if (Grid.isIn(next, knot) && covers.isShown(knot, placed)) {
                    to.row.add(knot);
                    if (fill(to, covers, placed | Grid.only(knot), deep + 1)) {
                        return true;
                    }
                    to.row.takeLast();
                }
            }
            to.deadEnds.add(placed);
            return false;
        }
    }

    /** Sums over all sets of edges from one knot, and fractions of them. */
    private static final class Chances {
        /** How many more are reached by the edge, over all orders of the edges from its knot. */
        static int gainInAllOrders(long grid, int from, int to) {
            int all = Grid.line(grid, from);
            int others = all & ~Grid.only(to);
            int sum = 0;
            for (int come = 0; come <= others; come++) {
                if ((come & ~others) == 0) {
                    int gain = countReached(grid, from, come | Grid.only(to))
                            - countReached(grid, from, come);
                    int ahead = Integer.bitCount(come);
                    int behind = Integer.bitCount(others) - ahead;
                    sum += gain * factorial(ahead) * factorial(behind);
                }
            }
            return sum;
        }

        /** How likely it is to reach so many, times 10 for each edge from the knot. */
        static int weightOfReaching(long grid, int knot, int least, int tenths) {
            int all = Grid.line(grid, knot);
            int sum = 0;
            for (int left = 0; left <= all; left++) {
                if ((left & ~all) == 0 && countReached(grid, knot, left) >= least) {
                    sum += power(ALL_TENTHS - tenths, Integer.bitCount(left))
                            * power(tenths, Integer.bitCount(all & ~left));
                }
            }
            return sum;
        }

        private static int countReached(long grid, int knot, int line) {
            return Integer.bitCount(Grid.reached(Grid.withLine(grid, knot, line), 0));
        }

        static int factorial(int number) {
            int product = 1;
            for (int factor = 2; factor <= number; factor++) {
                product *= factor;
            }
            return product;
        }

        static int power(int base, int exponent) {
            int product = 1;
            for (int i = 0; i < exponent; i++) {
                product *= base;
            }
            return product;
        }

        static int inLeastTerms(int above, int below, boolean upper) {
            int divisor = greatestDivisor(above, below);
            int told = upper ? above : below;
            return divisor == 0 ? told : told / divisor;
        }

        private static int greatestDivisor(int one, int other) {
            int divisor = one;
            int rest = other;
            // Euclid's steps on ints are far fewer than 64.
            for (int step = 0; step < 64 && rest != 0; step++) {
                int next = divisor % rest;
                divisor = rest;
                rest = next;
            }
            return divisor;
        }
    }
}
