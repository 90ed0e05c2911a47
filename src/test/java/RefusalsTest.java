import java.util.function.Consumer;

/**
 * Each refusal of each promise: it is told by a number one too small, one too large and far off, by
 * the first that the call names where there are several, and it changes nothing.
 */
public final class RefusalsTest {
    private static final int UNKNOWN = CoverOrder.UNKNOWN, OUTSIDE = CoverOrder.OUTSIDE;
    private static final int STATE = CoverOrder.STATE, FULL = CoverOrder.FULL;
    private static final int LEAST = Check.LEAST, MOST = Check.MOST;
    /** Of the four knots of a worn object; 256 and the like are knots when they are cut. */
    private static final int[] NO_KNOTS = {-1, 4, 7, 8, 256, 65536, LEAST, MOST};
    private static final int[] NO_SLOTS = {-1, 2, 32, 256, LEAST, MOST};

    private RefusalsTest() {
    }

    public static void main(String[] args) {
        Check.sentence("2: OUTSIDE (0 to 255)", RefusalsTest::writeOutside);
        Check.sentence("2: FULL: there are 64", RefusalsTest::writeFull);
        Check.sentence("5: STATE: a FAULT", RefusalsTest::graphState);
        Check.sentence("6: UNKNOWN: both", RefusalsTest::insertUnknown);
        Check.sentence("6: OUTSIDE: both are one", RefusalsTest::insertOutside);
        Check.sentence("6: STATE: it is there", RefusalsTest::insertState);
        Check.sentence("6: FULL: there are 24", RefusalsTest::insertFull);
        Check.sentence("7: UNKNOWN: both", RefusalsTest::deleteUnknown);
        Check.sentence("7: STATE: it is not there", RefusalsTest::deleteState);
        Check.sentence("8: STATE: there is none", RefusalsTest::undoState);
        Check.sentence("9: UNKNOWN: both", RefusalsTest::stampUnknown);
        Check.sentence("11: UNKNOWN", RefusalsTest::knotUnknown);
        Check.sentence("11: OUTSIDE", RefusalsTest::knotOutside);
        Check.sentence("12: UNKNOWN: both", RefusalsTest::nearestUnknown);
        Check.sentence("12: STATE: one is not REACHED", RefusalsTest::nearestState);
        Check.sentence("13: UNKNOWN: both", RefusalsTest::wouldUnknown);
        Check.sentence("13: OUTSIDE: both are one", RefusalsTest::wouldOutside);
        Check.sentence("13: FULL: it is not there, and there are 24", RefusalsTest::wouldFull);
        Check.sentence("15: OUTSIDE: row (0 or more)", RefusalsTest::lookBelow);
        Check.sentence("15: OUTSIDE: of as many figures as are REACHED at most",
                RefusalsTest::lookTooLong);
        Check.sentence("16: OUTSIDE: n", RefusalsTest::judgeCount);
        Check.sentence("16: OUTSIDE: row (0 or more, 3 n figures at most)", RefusalsTest::judgeRow);
        Check.sentence("17: OUTSIDE: v, u (0 to 7), had (0, 1)", RefusalsTest::seeOutside);
        Check.sentence("17: FULL: 6", RefusalsTest::seeFull);
        Check.sentence("19: OUTSIDE", RefusalsTest::missingOutside);
        Check.sentence("19: FULL: there are 24 EDGES", RefusalsTest::missingFull);
        Check.sentence("20: UNKNOWN: both", RefusalsTest::shareUnknown);
        Check.sentence("20: STATE: it is not there", RefusalsTest::shareState);
        Check.sentence("21: UNKNOWN", RefusalsTest::sparedUnknown);
        Check.sentence("21: OUTSIDE: v, x", RefusalsTest::sparedOutside);
        Check.sentence("23: OUTSIDE: m", RefusalsTest::drawnOutside);
        Check.sentence("24: UNKNOWN", RefusalsTest::keepUnknown);
        Check.sentence("25: UNKNOWN", RefusalsTest::againUnknown);
        Check.sentence("25: STATE: none were kept", RefusalsTest::againState);
        Check.sentence("26: OUTSIDE", RefusalsTest::countOutside);
        Check.end("RefusalsTest");
    }

    private static void nothing(CoverOrder x) {
    }

    /** All of it in use: 3 is not reached, slot 0 is kept, the text has a fault. */
    private static void worn(CoverOrder x) {
        Check.regraphed(x, "D4 01 12 23");
        x.insert(0, 2);
        x.keep(0);
        x.delete(2, 3);
        x.insert(3, 0);
        x.see(1, 0, 1);
        x.see(3, 2, 0);
        x.seed(77);
        x.write('0');
    }

    /** Twenty-four edges, two acts and a slot. */
    private static void full(CoverOrder x) {
        Check.regraphed(x, Check.FULL);
        x.keep(1);
        x.delete(1, 2);
        x.insert(1, 2);
        x.see(2, 0, 1);
        x.seed(-5);
    }

    private static Consumer<CoverOrder> then(Consumer<CoverOrder> first, Consumer<CoverOrder> next) {
        return first.andThen(next);
    }

    private static void writeOutside() {
        for (int no : new int[] {-1, 256, 256 + 'D', 'D' - 256, 65536 + 'D', LEAST, MOST}) {
            Twin.refused("write(" + no + ")", RefusalsTest::worn, x -> x.write(no), OUTSIDE);
            Twin.refused("write(" + no + ") to none", RefusalsTest::nothing, x -> x.write(no),
                    OUTSIDE);
        }
    }

    private static void writeFull() {
        Consumer<CoverOrder> filled = then(RefusalsTest::worn, x -> {
            while (x.count(0) < 64) {
                x.write('1');
            }
        });
        for (int letter : new int[] {0, '1', 'D', 255}) {
            Twin.refused("write(" + letter + ") to 64", filled, x -> x.write(letter), FULL);
        }
        Twin.refused("write(256) to 64: the first is OUTSIDE", filled, x -> x.write(256), OUTSIDE);
        Twin.refused("write(-1) to 64: the first is OUTSIDE", filled, x -> x.write(-1), OUTSIDE);
    }

    private static void graphState() {
        String[] faults = {"D", "X", "D0", "D9", "D10", "D30", "D33", "D300", "D303", "D30101",
            "D301020", "D401231", "D4012312x", "d4", " D4", "D4 ", "D 4"};
        for (String text : faults) {
            Twin.refused("graph() of " + text, then(RefusalsTest::worn, x -> {
                x.wipe();
                Check.write(x, text);
            }), CoverOrder::graph, STATE);
        }
        Twin.refused("graph() of no text", RefusalsTest::nothing, CoverOrder::graph, STATE);
        Twin.refused("graph() of 25 edges", then(RefusalsTest::full, x -> Check.write(x, "34")),
                CoverOrder::graph, STATE);
        Twin.refused("graph() of 24 edges and a figure",
                then(RefusalsTest::full, x -> x.write('3')), CoverOrder::graph, STATE);
    }

    private static void insertUnknown() {
        for (int no : NO_KNOTS) {
            Twin.refused("insert(" + no + ", 1)", RefusalsTest::worn, x -> x.insert(no, 1), UNKNOWN);
            Twin.refused("insert(1, " + no + ")", RefusalsTest::worn, x -> x.insert(1, no), UNKNOWN);
            Twin.refused("insert(" + no + ", " + no + "): the first is UNKNOWN",
                    RefusalsTest::worn, x -> x.insert(no, no), UNKNOWN);
        }
        Twin.refused("insert(0, 1) of one knot", RefusalsTest::nothing, x -> x.insert(0, 1), UNKNOWN);
        Twin.refused("insert(1, 0) of one knot", RefusalsTest::nothing, x -> x.insert(1, 0), UNKNOWN);
        Twin.refused("full: insert(8, 0)", RefusalsTest::full, x -> x.insert(8, 0), UNKNOWN);
        Twin.refused("full: insert(0, -1)", RefusalsTest::full, x -> x.insert(0, -1), UNKNOWN);
        // 10 times -1 and 12 is 0 to 2, 10 times 0 and 12 is 1 to 2.
        Twin.refused("insert(-1, 12)", RefusalsTest::worn, x -> x.insert(-1, 12), UNKNOWN);
        Twin.refused("insert(0, 12)", RefusalsTest::worn, x -> x.insert(0, 12), UNKNOWN);
    }

    private static void insertOutside() {
        for (int knot = 0; knot < 4; knot++) {
            int k = knot;
            Twin.refused("insert(" + k + ", " + k + ")", RefusalsTest::worn, x -> x.insert(k, k),
                    OUTSIDE);
        }
        Twin.refused("insert(0, 0) of one knot", RefusalsTest::nothing, x -> x.insert(0, 0), OUTSIDE);
        Twin.refused("full: insert(7, 7): the first is OUTSIDE", RefusalsTest::full,
                x -> x.insert(7, 7), OUTSIDE);
    }

    private static void insertState() {
        for (int pair : new int[] {1, 12, 2, 30}) {
            Twin.refused("insert of " + pair, RefusalsTest::worn, x -> x.insert(pair / 10, pair % 10),
                    STATE);
        }
        for (int pair : new int[] {1, 12, 32}) {
            Twin.refused("full: insert of " + pair + ": the first is STATE", RefusalsTest::full,
                    x -> x.insert(pair / 10, pair % 10), STATE);
        }
    }

    private static void insertFull() {
        for (int pair : new int[] {34, 37, 40, 76}) {
            Twin.refused("full: insert of " + pair, RefusalsTest::full,
                    x -> x.insert(pair / 10, pair % 10), FULL);
        }
    }

    private static void deleteUnknown() {
        for (int no : NO_KNOTS) {
            Twin.refused("delete(" + no + ", 1)", RefusalsTest::worn, x -> x.delete(no, 1), UNKNOWN);
            Twin.refused("delete(0, " + no + ")", RefusalsTest::worn, x -> x.delete(0, no), UNKNOWN);
            Twin.refused("delete(" + no + ", " + no + ")", RefusalsTest::worn, x -> x.delete(no, no),
                    UNKNOWN);
        }
        Twin.refused("delete(0, 12)", RefusalsTest::worn, x -> x.delete(0, 12), UNKNOWN);
        Twin.refused("delete(0, 1) of one knot", RefusalsTest::nothing, x -> x.delete(0, 1), UNKNOWN);
    }

    private static void deleteState() {
        for (int pair : new int[] {10, 21, 23, 3, 13, 0, 22, 33}) {
            Twin.refused("delete of " + pair, RefusalsTest::worn, x -> x.delete(pair / 10, pair % 10),
                    STATE);
        }
        Twin.refused("delete(0, 0) of one knot", RefusalsTest::nothing, x -> x.delete(0, 0), STATE);
        Twin.refused("full: delete(3, 4)", RefusalsTest::full, x -> x.delete(3, 4), STATE);
    }

    private static void undoState() {
        Twin.refused("new: undo()", RefusalsTest::nothing, CoverOrder::undo, STATE);
        Twin.refused("all undone: undo()", then(RefusalsTest::worn, x -> {
            x.undo();
            x.undo();
            x.undo();
        }), CoverOrder::undo, STATE);
        Twin.refused("undo() in a graph anew", then(RefusalsTest::worn, x -> {
            x.wipe();
            Check.write(x, "D301");
            x.graph();
        }), CoverOrder::undo, STATE);
        Twin.refused("undo() after again", then(RefusalsTest::worn, x -> x.again(0)),
                CoverOrder::undo, STATE);
    }

    private static void stampUnknown() {
        for (int no : NO_KNOTS) {
            Twin.refused("stamp(" + no + ", 1)", RefusalsTest::worn, x -> x.stamp(no, 1), UNKNOWN);
            Twin.refused("stamp(0, " + no + ")", RefusalsTest::worn, x -> x.stamp(0, no), UNKNOWN);
            Twin.refused("stamp(" + no + ", " + no + ")", RefusalsTest::worn, x -> x.stamp(no, no),
                    UNKNOWN);
        }
        Twin.refused("stamp(0, 12)", RefusalsTest::worn, x -> x.stamp(0, 12), UNKNOWN);
        Twin.refused("stamp(0, 1) of one knot", RefusalsTest::nothing, x -> x.stamp(0, 1), UNKNOWN);
    }

    private static void knotUnknown() {
        for (int no : NO_KNOTS) {
            for (int what = -1; what <= 7; what++) {
                int w = what;
                Twin.refused("knot(" + no + ", " + w + ")", RefusalsTest::worn, x -> x.knot(no, w),
                        UNKNOWN);
            }
        }
        Twin.refused("knot(1, 0) of one knot", RefusalsTest::nothing, x -> x.knot(1, 0), UNKNOWN);
        Twin.refused("knot(8, 0) of eight", RefusalsTest::full, x -> x.knot(8, 0), UNKNOWN);
    }

    private static void knotOutside() {
        for (int no : new int[] {-1, 7, 8, 256, LEAST, MOST}) {
            for (int knot = 0; knot < 4; knot++) {
                int k = knot;
                Twin.refused("knot(" + k + ", " + no + ")", RefusalsTest::worn, x -> x.knot(k, no),
                        OUTSIDE);
            }
        }
    }

    private static void nearestUnknown() {
        for (int no : NO_KNOTS) {
            Twin.refused("nearest(" + no + ", 0)", RefusalsTest::worn, x -> x.nearest(no, 0), UNKNOWN);
            Twin.refused("nearest(0, " + no + ")", RefusalsTest::worn, x -> x.nearest(0, no), UNKNOWN);
            Twin.refused("nearest(" + no + ", 3): the first is UNKNOWN", RefusalsTest::worn,
                    x -> x.nearest(no, 3), UNKNOWN);
            Twin.refused("nearest(3, " + no + "): the first is UNKNOWN", RefusalsTest::worn,
                    x -> x.nearest(3, no), UNKNOWN);
        }
    }

    private static void nearestState() {
        for (int knot = 0; knot < 4; knot++) {
            int k = knot;
            Twin.refused("nearest(" + k + ", 3)", RefusalsTest::worn, x -> x.nearest(k, 3), STATE);
            Twin.refused("nearest(3, " + k + ")", RefusalsTest::worn, x -> x.nearest(3, k), STATE);
        }
    }

    private static void wouldUnknown() {
        for (int no : NO_KNOTS) {
            Twin.refused("would(" + no + ", 1)", RefusalsTest::worn, x -> x.would(no, 1), UNKNOWN);
            Twin.refused("would(0, " + no + ")", RefusalsTest::worn, x -> x.would(0, no), UNKNOWN);
            Twin.refused("would(" + no + ", " + no + "): the first is UNKNOWN", RefusalsTest::worn,
                    x -> x.would(no, no), UNKNOWN);
        }
        Twin.refused("full: would(0, 8): the first is UNKNOWN", RefusalsTest::full,
                x -> x.would(0, 8), UNKNOWN);
        Twin.refused("full: would(-1, 0): the first is UNKNOWN", RefusalsTest::full,
                x -> x.would(-1, 0), UNKNOWN);
    }

    private static void wouldOutside() {
        for (int knot = 0; knot < 4; knot++) {
            int k = knot;
            Twin.refused("would(" + k + ", " + k + ")", RefusalsTest::worn, x -> x.would(k, k),
                    OUTSIDE);
        }
        Twin.refused("full: would(7, 7): the first is OUTSIDE", RefusalsTest::full,
                x -> x.would(7, 7), OUTSIDE);
    }

    private static void wouldFull() {
        for (int pair : new int[] {34, 37, 40, 76}) {
            Twin.refused("full: would of " + pair, RefusalsTest::full,
                    x -> x.would(pair / 10, pair % 10), FULL);
        }
    }

    private static void lookBelow() {
        for (long row : new long[] {-1, -12, LEAST, Long.MIN_VALUE, Long.MIN_VALUE + 12}) {
            Twin.refused("look(" + row + ")", RefusalsTest::worn, x -> x.look(row), OUTSIDE);
        }
        Twin.refused("look(-1) of the root alone", RefusalsTest::nothing, x -> x.look(-1), OUTSIDE);
    }

    /** In a chain cut so that each number of knots is reached once. */
    private static void lookTooLong() {
        long tooLong = 10;
        for (int reached = 1; reached <= 8; reached++) {
            long row = tooLong;
            int cut = reached;
            Consumer<CoverOrder> made = x -> {
                Check.regraphed(x, Check.CHAIN);
                x.delete(cut - 1, cut);
            };
            Twin.refused("look(" + row + ") of " + reached, made, x -> x.look(row), OUTSIDE);
            Twin.refused("look of a long of " + reached, made, x -> x.look((1L << 32) + row / 10),
                    OUTSIDE);
            Twin.refused("look of the greatest of " + reached, made, x -> x.look(Long.MAX_VALUE),
                    OUTSIDE);
            CoverOrder x = new CoverOrder();
            made.accept(x);
            Check.due("look(" + (row - 1) + ") of " + reached, x.look(row - 1), 0);
            tooLong *= 10;
        }
    }

    private static void judgeCount() {
        for (int n : new int[] {-1, 0, 5, 256 + 1, LEAST, LEAST + 1, MOST}) {
            Twin.refused("judge(" + n + ", 300)", RefusalsTest::worn, x -> x.judge(n, 300), OUTSIDE);
            Twin.refused("judge(" + n + ", -1)", RefusalsTest::worn, x -> x.judge(n, -1), OUTSIDE);
        }
        Twin.refused("judge(0, 0)", RefusalsTest::worn, x -> x.judge(0, 0), OUTSIDE);
    }

    private static void judgeRow() {
        long tooLong = 1000;
        for (int doings = 1; doings <= 4; doings++) {
            int n = doings;
            long row = tooLong;
            for (long no : new long[] {-1, row, row + 1, -row, Long.MIN_VALUE, Long.MAX_VALUE}) {
                Twin.refused("judge(" + n + ", " + no + ")", RefusalsTest::worn,
                        x -> x.judge(n, no), OUTSIDE);
            }
            CoverOrder x = Check.graph("D3 01 12");
            Check.due("judge(" + n + ", " + (row - 1) + ")", x.judge(n, row - 1), 0);
            Check.due("judge(" + n + ", 0)", x.judge(n, 0), 0);
            tooLong *= 1000;
        }
        Twin.refused("judge(1, 2^32 and 300)", RefusalsTest::worn, x -> x.judge(1, (1L << 32) + 300),
                OUTSIDE);
    }

    private static void seeOutside() {
        for (int no : new int[] {-1, 8, 10, 256, LEAST, MOST}) {
            Twin.refused("see(" + no + ", 0, 1)", RefusalsTest::worn, x -> x.see(no, 0, 1), OUTSIDE);
            Twin.refused("see(1, " + no + ", 1)", RefusalsTest::worn, x -> x.see(1, no, 1), OUTSIDE);
        }
        for (int no : new int[] {-1, 2, 256, LEAST, MOST}) {
            Twin.refused("see(1, 0, " + no + ")", RefusalsTest::worn, x -> x.see(1, 0, no), OUTSIDE);
        }
    }

    private static void seeFull() {
        Consumer<CoverOrder> six = then(RefusalsTest::worn, x -> {
            for (int i = 2; i < 6; i++) {
                x.see(i, 7, 0);
            }
        });
        Twin.refused("see(1, 0, 1), the seventh", six, x -> x.see(1, 0, 1), FULL);
        Twin.refused("see(1, 0, 0), the seventh", six, x -> x.see(1, 0, 0), FULL);
        Twin.refused("see(8, 0, 1): the first is OUTSIDE", six, x -> x.see(8, 0, 1), OUTSIDE);
        Twin.refused("see(1, -1, 1): the first is OUTSIDE", six, x -> x.see(1, -1, 1), OUTSIDE);
        Twin.refused("see(1, 0, 2): the first is OUTSIDE", six, x -> x.see(1, 0, 2), OUTSIDE);
    }

    private static void missingOutside() {
        for (int no : new int[] {-1, 2, 256, LEAST, MOST}) {
            Twin.refused("missing(" + no + ")", RefusalsTest::worn, x -> x.missing(no), OUTSIDE);
            Twin.refused("full: missing(" + no + "): the first is OUTSIDE", RefusalsTest::full,
                    x -> x.missing(no), OUTSIDE);
        }
    }

    private static void missingFull() {
        Twin.refused("full: missing(0)", RefusalsTest::full, x -> x.missing(0), FULL);
        Twin.refused("full: missing(1)", RefusalsTest::full, x -> x.missing(1), FULL);
    }

    private static void shareUnknown() {
        for (int no : NO_KNOTS) {
            for (boolean upper : new boolean[] {true, false}) {
                Twin.refused("share(" + no + ", 1, " + upper + ")", RefusalsTest::worn,
                        x -> x.share(no, 1, upper), UNKNOWN);
                Twin.refused("share(0, " + no + ", " + upper + ")", RefusalsTest::worn,
                        x -> x.share(0, no, upper), UNKNOWN);
                Twin.refused("share(" + no + ", " + no + ", " + upper + ")", RefusalsTest::worn,
                        x -> x.share(no, no, upper), UNKNOWN);
            }
        }
        Twin.refused("share(0, 12)", RefusalsTest::worn, x -> x.share(0, 12, true), UNKNOWN);
    }

    private static void shareState() {
        for (int pair : new int[] {10, 21, 23, 0, 33}) {
            for (boolean upper : new boolean[] {true, false}) {
                Twin.refused("share of " + pair + ", " + upper, RefusalsTest::worn,
                        x -> x.share(pair / 10, pair % 10, upper), STATE);
            }
        }
    }

    private static void sparedUnknown() {
        for (int no : NO_KNOTS) {
            for (boolean upper : new boolean[] {true, false}) {
                Twin.refused("spared(" + no + ", 1, 5, " + upper + ")", RefusalsTest::worn,
                        x -> x.spared(no, 1, 5, upper), UNKNOWN);
                Twin.refused("spared(" + no + ", 9, 5, " + upper + "): the first is UNKNOWN",
                        RefusalsTest::worn, x -> x.spared(no, 9, 5, upper), UNKNOWN);
                Twin.refused("spared(" + no + ", 1, -1, " + upper + "): the first is UNKNOWN",
                        RefusalsTest::worn, x -> x.spared(no, 1, -1, upper), UNKNOWN);
            }
        }
    }

    private static void sparedOutside() {
        for (boolean upper : new boolean[] {true, false}) {
            for (int no : new int[] {-1, 9, 256, LEAST, MOST}) {
                Twin.refused("spared(0, " + no + ", 5, " + upper + ")", RefusalsTest::worn,
                        x -> x.spared(0, no, 5, upper), OUTSIDE);
            }
            for (int no : new int[] {-1, 11, 256, LEAST, MOST}) {
                Twin.refused("spared(0, 1, " + no + ", " + upper + ")", RefusalsTest::worn,
                        x -> x.spared(0, 1, no, upper), OUTSIDE);
            }
        }
    }

    private static void drawnOutside() {
        for (int no : new int[] {-1, 0, 21, 256 + 1, LEAST, LEAST + 1, MOST}) {
            Twin.refused("drawn(" + no + ")", RefusalsTest::worn, x -> x.drawn(no), OUTSIDE);
        }
    }

    private static void keepUnknown() {
        for (int no : NO_SLOTS) {
            Twin.refused("keep(" + no + ")", RefusalsTest::worn, x -> x.keep(no), UNKNOWN);
        }
    }

    private static void againUnknown() {
        for (int no : NO_SLOTS) {
            Twin.refused("again(" + no + ")", RefusalsTest::worn, x -> x.again(no), UNKNOWN);
            Twin.refused("new: again(" + no + "): the first is UNKNOWN", RefusalsTest::nothing,
                    x -> x.again(no), UNKNOWN);
        }
    }

    private static void againState() {
        Twin.refused("again(1) with 0 kept", RefusalsTest::worn, x -> x.again(1), STATE);
        Twin.refused("again(0) with 1 kept", RefusalsTest::full, x -> x.again(0), STATE);
        Twin.refused("new: again(0)", RefusalsTest::nothing, x -> x.again(0), STATE);
        Twin.refused("new: again(1)", RefusalsTest::nothing, x -> x.again(1), STATE);
        Consumer<CoverOrder> anew = x -> {
            Check.regraphed(x, "D3 01");
            x.keep(0);
            x.keep(1);
            x.graph();
            x.insert(1, 2);
        };
        Twin.refused("again(0) in a graph anew", anew, x -> x.again(0), STATE);
        Twin.refused("again(1) in a graph anew", anew, x -> x.again(1), STATE);
    }

    private static void countOutside() {
        for (int no : new int[] {-1, 10, 256, LEAST, MOST}) {
            Twin.refused("count(" + no + ")", RefusalsTest::worn, x -> x.count(no), OUTSIDE);
        }
    }
}
