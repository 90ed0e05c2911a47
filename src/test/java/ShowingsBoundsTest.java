/** SHOWING, LOOKED AT, JUDGED of the terms, promises 14 to 16: each boundary. */
public final class ShowingsBoundsTest {
    private static final int NONE = CoverOrder.NONE;

    private ShowingsBoundsTest() {
    }

    public static void main(String[] args) {
        Check.sentence("A SHOWING is a row of all that are REACHED, each once",
                ShowingsBoundsTest::allReached);
        Check.sentence("THE ROOT first", ShowingsBoundsTest::rootFirst);
        Check.sentence("each other v stands behind its LID", ShowingsBoundsTest::behindLid);
        Check.sentence("all that v COVERS stand directly behind it together",
                ShowingsBoundsTest::together);
        Check.sentence("there is an EDGE from LID of v to v", ShowingsBoundsTest::edgeFromLid);
        Check.sentence("one from a KNOT that stands ahead of v, one from a KNOT that stands behind v",
                ShowingsBoundsTest::aheadAndBehind);
        Check.sentence("and is not COVERED by it", ShowingsBoundsTest::notCoveredByIt);
        Check.sentence("THE SHOWING: the least one (figure by figure)",
                ShowingsBoundsTest::leastOne);
        Check.sentence("14: THE SHOWING of THE GRAPH as it is",
                ShowingsBoundsTest::oneAfterTheOther);
        Check.sentence("14: KNOT i of THE SHOWING (from 0); NONE: there is none such",
                ShowingsBoundsTest::ithKnot);
        Check.sentence("LOOKED AT (figures, so many as are REACHED)",
                ShowingsBoundsTest::lookFigures);
        Check.sentence("the first KNOT that is not REACHED", ShowingsBoundsTest::lookNotReached);
        Check.sentence("or stands there a second time", ShowingsBoundsTest::lookSecondTime);
        Check.sentence("or is not THE ROOT at place 0", ShowingsBoundsTest::lookNotRoot);
        Check.sentence("or (elsewhere) whose LID does not COVER the KNOT directly ahead of it",
                ShowingsBoundsTest::lookLid);
        Check.sentence("if there is none such, of the first that is not THE ROOT, to which there is"
                + " neither an EDGE from its LID, nor two EDGES", ShowingsBoundsTest::lookNotShown);
        Check.sentence("NONE: it is a SHOWING", ShowingsBoundsTest::lookShowing);
        Check.sentence("JUDGED: n doings (1 to 4), the first one's are the highest of row",
                ShowingsBoundsTest::judgeCounts);
        Check.sentence("1, two KNOTS: INSERTED", ShowingsBoundsTest::judgeInserted);
        Check.sentence("1: (24 at most)", ShowingsBoundsTest::judgeInsertedFull);
        Check.sentence("2, two: DELETED", ShowingsBoundsTest::judgeDeleted);
        Check.sentence("3, two: the one COVERS the other", ShowingsBoundsTest::judgeCovers);
        Check.sentence("4, two: the one is LID of the other", ShowingsBoundsTest::judgeLid);
        Check.sentence("5, a KNOT, v: its DEPTH is v", ShowingsBoundsTest::judgeDepth);
        Check.sentence("6, two: the one is HALF of the other", ShowingsBoundsTest::judgeHalf);
        Check.sentence("7, two: the other one is in RIM of the one", ShowingsBoundsTest::judgeRim);
        Check.sentence("8, 0, v: v KNOTS or more are REACHED", ShowingsBoundsTest::judgeReached);
        Check.sentence("the place of the first that can not be (or is not so)",
                ShowingsBoundsTest::judgeFirst);
        Check.sentence("can not be: no such doing, no such KNOT", ShowingsBoundsTest::judgeNoDoing);
        Check.sentence("In what follows nothing is changed", ShowingsBoundsTest::nothingChanged);
        Check.end("ShowingsBoundsTest");
    }

    private static void showing(String text, String want) {
        Check.dueShowing(text, Check.graph(text), want);
    }

    /** Rows and what looking at them tells. */
    private static void look(String text, long... want) {
        CoverOrder x = Check.graph(text);
        for (int i = 0; i < want.length; i += 2) {
            Check.due(text + ": look(" + want[i] + ")", x.look(want[i]), want[i + 1]);
        }
    }

    /** Rows of one doing that is so (or can be), then rows of one that is not. */
    private static void judgeEach(String text, long[] so, long[] notSo) {
        CoverOrder x = Check.graph(text);
        for (long row : so) {
            Check.due(text + ": judge(1, " + row + ")", x.judge(1, row), NONE);
        }
        for (long row : notSo) {
            Check.due(text + ": judge(1, " + row + ")", x.judge(1, row), 0);
        }
    }

    private static void judge(String text, int n, long row, int want) {
        Check.due(text + ": judge(" + n + ", " + row + ")", Check.graph(text).judge(n, row), want);
    }

    private static void allReached() {
        showing("D1", "0");
        showing("D8", "0");
        showing("D3 10 20 12", "0");
        showing("D8 07", "07");
        showing("D8 01 23 34 45 56 67 71", "01");
        showing(Check.CHAIN, "01234567");
        showing("D8 07 76 65 54 43 32 21", "07654321");
    }

    private static void rootFirst() {
        showing("D3 12 21 02 10", "021");
        showing("D2 01 10", "01");
        look("D2 01 10", 1, NONE, 10, 0, 0, 1);
    }

    private static void behindLid() {
        showing("D3 02 21", "021");
        showing("D4 03 32 21", "0321");
        showing("D5 04 41 12 03", "03412");
        look("D3 02 21", 21, NONE, 12, 1);
    }

    private static void together() {
        // Without it 0 1 2 3 would be less.
        showing("D4 01 02 13", "0132");
        showing("D5 01 02 14 13", "01342");
        look("D4 01 02 13", 132, NONE, 213, NONE, 123, 3, 231, 2);
    }

    private static void edgeFromLid() {
        // With the edge from its lid 3 stands where it is least.
        showing("D4 01 02 03 13 23", "0123");
        showing("D4 01 02 13 23", "0132");
        look("D4 01 02 03 13 23", 123, NONE, 312, NONE);
        look("D4 01 02 13 23", 123, 3, 312, 1);
    }

    private static void aheadAndBehind() {
        // Only from ahead, only from behind, from both.
        look("D4 01 02 13 23", 123, 3, 213, 3, 312, 1, 321, 1, 132, NONE, 231, NONE);
        // From 4, which is not reached, no edge counts.
        look("D5 01 02 13 23 43", 123, 3, 132, NONE, 321, 1);
        // An edge from the root is one from its lid.
        look("D4 01 02 13 23 03", 123, NONE, 321, NONE);
    }

    private static void notCoveredByIt() {
        // 4 stands behind 3, but 3 covers it.
        look("D6 01 02 13 23 34 43 45", 12345, 3, 13452, NONE, 23451, NONE);
        look("D5 01 02 13 23 34 43", 1234, 3, 1342, NONE);
        showing("D5 01 02 13 23 34 43", "01342");
    }

    private static void leastOne() {
        showing("D8 07 06 05 04 03 02 01", "01234567");
        showing("D4 03 02 01 13 23 31 32", "0123");
        showing("D5 01 02 03 14 24 34", "01243");
        showing("D5 04 03 02 41 31 21", "02134");
        // Nothing ahead of 1 shows it at place 1.
        showing("D4 03 02 31 21", "0213");
        // With 1 and 2 ahead of 3 nothing behind it would show it.
        showing("D4 01 02 13 23", "0132");
        showing("D4 01 03 12 32", "0123");
        // The same for 6, which is seen only when 3, 4, 5 stand behind 2 in each order.
        showing("D7 01 02 03 04 05 16 26", "0134562");
        // Behind 2 stands 4, which 3 covers.
        showing("D5 01 03 12 34 42", "01234");
    }

    /** What was found for one graph, or could not be, is nothing to the next. */
    private static void oneAfterTheOther() {
        CoverOrder x = Check.graph("D4 01 02 13 23");
        Check.dueShowing("01 02 13 23", x, "0132");
        x.insert(0, 3);
        Check.dueShowing("03, too", x, "0123");
        x.delete(0, 2);
        Check.dueShowing("02 gone", x, "013");
        x.delete(0, 3);
        Check.dueShowing("03 gone", x, "013");
        x.delete(0, 1);
        Check.dueShowing("01 gone", x, "0");
        x.undo();
        x.undo();
        x.undo();
        Check.dueShowing("three undone", x, "0123");
        x.undo();
        Check.dueShowing("as at first", x, "0132");
        Check.regraph(x, Check.CHAIN);
        Check.dueShowing("a chain", x, "01234567");
        Check.regraph(x, "D2 01");
        Check.dueShowing("a short one", x, "01");
    }

    private static void ithKnot() {
        CoverOrder x = Check.graph("D5 03 31");
        Check.due("showing(-1)", x.showing(-1), NONE);
        Check.due("showing(0)", x.showing(0), 0);
        Check.due("showing(1)", x.showing(1), 3);
        Check.due("showing(2), the last", x.showing(2), 1);
        Check.due("showing(3)", x.showing(3), NONE);
        Check.due("showing(4)", x.showing(4), NONE);
        for (int i : new int[] {8, 256, Check.LEAST, Check.MOST}) {
            Check.due("showing(" + i + ")", x.showing(i), NONE);
        }
        x = Check.graph(Check.CHAIN);
        Check.due("showing(7) of eight", x.showing(7), 7);
        Check.due("showing(8) of eight", x.showing(8), NONE);
        x = new CoverOrder();
        Check.due("showing(0) of one", x.showing(0), 0);
        Check.due("showing(1) of one", x.showing(1), NONE);
    }

    /** Fewer figures than are reached have zeros ahead of them. */
    private static void lookFigures() {
        look("D1", 0, NONE, 1, 0, 9, 0, 10, CoverOrder.OUTSIDE);
        look("D2", 0, NONE, 1, 0, 10, CoverOrder.OUTSIDE);
        look("D2 01", 1, NONE, 0, 1, 10, 0, 99, 0, 100, CoverOrder.OUTSIDE);
        look("D4 01 12 23", 123, NONE, 12, 1, 1, 1, 0, 1, 9999, 0, 10000, CoverOrder.OUTSIDE);
        look(Check.CHAIN, 1234567, NONE, 123456, 1, 0, 1, 99999999, 0, 100000000,
                CoverOrder.OUTSIDE);
    }

    private static void lookNotReached() {
        // 3 and 4 are knots that are not reached, 5 to 9 are none.
        look("D5 01 12 34", 12, NONE, 13, 2, 14, 2, 15, 2, 18, 2, 19, 2, 31, 1, 32, 1, 92, 1, 82, 1,
                312, 0, 512, 0, 912, 0);
        look(Check.CHAIN, 1234568, 7, 1234569, 7, 8, 1);
        look("D2 10", 1, 0, 0, NONE);
    }

    private static void lookSecondTime() {
        look("D4 01 12 23", 122, 3, 121, 3, 120, 3, 112, 2, 113, 2, 111, 2, 0, 1, 11, 1, 1, 1);
        look(Check.CHAIN, 1234566, 7, 1234560, 7);
        // The root elsewhere stands there a second time.
        look("D2 01 10", 0, 1);
    }

    private static void lookNotRoot() {
        look("D3 01 12", 12, NONE, 112, 0, 212, 0, 102, 0, 120, 0, 210, 0);
        look("D1", 0, NONE, 1, 0);
    }

    private static void lookLid() {
        // 0 covers all, 1 covers 3 and 4, 2 covers 5.
        String text = "D6 01 02 13 14 25";
        look(text, 13425, NONE, 14325, NONE, 25134, NONE, 25143, NONE, 13254, 5, 12345, 3, 12534, 4,
                15342, 2, 31425, 1, 51342, 1, 13524, 3, 21345, 5);
        look(Check.CHAIN, 1234576, 6, 1235467, 4, 7654321, 1);
    }

    private static void lookNotShown() {
        // 3 at place 3 shows nothing, but 4 at place 4 is out of its place: that is told.
        look("D5 01 02 13 23 24", 1234, 4);
        look("D5 01 02 13 23 24", 3124, 1, 1324, NONE, 2431, NONE, 2413, 4, 3241, 1);
        // Of two that show nothing the first.
        look("D5 01 02 13 23 14 24", 1234, 3, 1243, 3, 1342, NONE, 1324, 4, 3142, 1, 4132, 1,
                3412, 1, 1423, 4);
    }

    private static void lookShowing() {
        look("D1", 0, NONE);
        look("D2 01", 1, NONE);
        look(Check.CHAIN, 1234567, NONE);
        look("D8 01 02 03 04 05 06 07", 1234567, NONE, 7654321, NONE, 3517264, NONE);
        look("D4 01 02 13 23", 132, NONE, 231, NONE);
    }

    private static void judgeCounts() {
        String text = "D3 01 12";
        judge(text, 0, 300, CoverOrder.OUTSIDE);
        judge(text, 5, 300, CoverOrder.OUTSIDE);
        judge(text, 1, 301, NONE);
        judge(text, 1, 310, 0);
        judge(text, 4, 301302312322L, NONE);
        judge(text, 4, 310302312322L, 0);
        judge(text, 4, 301320312322L, 1);
        judge(text, 4, 301302321322L, 2);
        judge(text, 4, 301302312320L, 3);
        judge(text, 2, 301302, NONE);
        judge(text, 3, 301302312, NONE);
        // Fewer figures have zeros ahead of them, and there is no doing 0.
        judge(text, 2, 301, 0);
        judge(text, 4, 301302312, 0);
        judge(text, 1, 0, 0);
        judge(text, 1, 999, 0);
        judge(text, 1, 1000, CoverOrder.OUTSIDE);
        judge(text, 4, 999999999999L, 0);
        judge(text, 4, 1000000000000L, CoverOrder.OUTSIDE);
        judge(text, 4, -1, CoverOrder.OUTSIDE);
    }

    private static void judgeInserted() {
        judgeEach("D3 01", new long[] {102, 110, 112, 120, 121},
                new long[] {101, 100, 111, 122, 103, 113, 130, 131, 109, 190, 199});
        judgeEach("D1", new long[] {}, new long[] {100, 101, 110});
        judge("D3 01", 2, 112112, 1);
        judge("D3 01", 2, 112302, NONE);
        judge("D3 01", 2, 302112, 0);
    }

    private static void judgeInsertedFull() {
        String less = Check.FULL.substring(0, Check.FULL.length() - 2);
        judge(less, 1, 134, NONE);
        judge(less, 2, 134135, 1);
        judge(less, 3, 134234135, NONE);
        judge(Check.FULL, 1, 134, 0);
        judge(Check.FULL, 1, 132, 0);
        judge(Check.FULL, 2, 232134, NONE);
        judge(Check.FULL, 3, 232134135, 2);
    }

    private static void judgeDeleted() {
        judgeEach("D3 01 12", new long[] {201, 212},
                new long[] {200, 210, 202, 221, 211, 203, 230, 213, 209, 290, 299});
        judge("D3 01 12", 2, 201201, 1);
        judge("D3 01 12", 2, 112212, 0);
        judge("D3 01 12", 3, 201101201, NONE);
        judge("D3 01 12", 2, 201302, 1);
        judge("D1", 1, 200, 0);
    }

    private static void judgeCovers() {
        judgeEach("D5 01 12 02 23", new long[] {300, 301, 302, 303, 311, 322, 323, 333},
                new long[] {310, 312, 313, 321, 331, 332, 304, 344, 340, 305, 350, 355, 309, 390});
        judge("D1", 1, 300, NONE);
        judge("D1", 1, 301, 0);
        judge("D8 01", 1, 377, 0);
    }

    private static void judgeLid() {
        judgeEach("D5 01 12 02 23", new long[] {401, 402, 423},
                new long[] {400, 403, 412, 410, 411, 422, 432, 404, 434, 444, 405, 450, 409, 490});
        judge("D1", 1, 400, 0);
        judge("D2 01 10", 1, 410, 0);
    }

    private static void judgeDepth() {
        judgeEach("D5 01 12 02 23", new long[] {500, 511, 521, 532},
                new long[] {501, 510, 512, 522, 531, 533, 540, 549, 541, 550, 551, 559, 590, 599});
        judge(Check.CHAIN, 1, 577, NONE);
        judge(Check.CHAIN, 1, 576, 0);
        judge(Check.CHAIN, 1, 578, 0);
        judge("D1", 1, 500, NONE);
        judge("D1", 1, 510, 0);
    }

    private static void judgeHalf() {
        judgeEach("D6 01 12 23 34 03 24", new long[] {601, 612, 603, 624},
                new long[] {600, 610, 602, 623, 604, 634, 611, 605, 650, 655, 606, 660, 609, 690});
        judge("D2 01 10", 1, 610, 0);
        judge("D1", 1, 600, 0);
        // What went and came again is the last of the row: the walk comes to 4 ahead of 2.
        String text = "D5 01 12 23 34 03 24";
        judge(text, 1, 624, NONE);
        judge(text, 1, 604, 0);
        judge(text, 3, 201101604L, NONE);
        judge(text, 3, 201101624L, 2);
    }

    private static void judgeRim() {
        judgeEach("D6 01 02 13 23 34 43", new long[] {713, 723, 733},
                new long[] {700, 701, 703, 710, 711, 724, 730, 731, 734, 744, 740, 755, 750, 705,
                    706, 760, 709, 790});
        judge("D6 01 02 13 23 34 43", 1, 743, NONE);
        judge("D2 01 10", 1, 700, NONE);
        judge("D2 01 10", 1, 710, NONE);
        judge("D2 01", 1, 700, 0);
        judge("D2 10", 1, 710, 0);
    }

    private static void judgeReached() {
        judgeEach("D5 01 12 34", new long[] {800, 801, 802, 803}, new long[] {804, 805, 808, 809});
        judgeEach("D5 01 12 34", new long[] {}, new long[] {810, 811, 813, 890, 893});
        judgeEach("D1", new long[] {800, 801}, new long[] {802, 809});
        judgeEach(Check.CHAIN, new long[] {807, 808}, new long[] {809});
        judge("D3 01", 3, 803112803, 0);
        judge("D3 01", 3, 802112803, NONE);
    }

    private static void judgeFirst() {
        judge("D2 01", 4, 802802802802L, NONE);
        judge("D2 01", 4, 803803803803L, 0);
        judge("D2 01", 4, 802803803803L, 1);
        judge("D2 01", 4, 802802803803L, 2);
        judge("D2 01", 4, 802802802803L, 3);
        judge("D2 01", 4, 802101802803L, 1);
        judge("D2 01", 4, 201802801801L, 1);
    }

    private static void judgeNoDoing() {
        judgeEach("D8 01", new long[] {}, new long[] {0, 1, 10, 77, 99, 900, 901, 977, 999});
        judge("D8 01", 3, 801900801, 1);
        judge("D8 01", 3, 801001801, 1);
        judge("D8", 1, 107, NONE);
        judge("D8", 1, 108, 0);
        judge("D8", 1, 180, 0);
        judge("D7", 1, 107, 0);
    }

    private static void worn(CoverOrder x) {
        Check.regraphed(x, "D5 01 02 13 23 34 43");
        x.keep(0);
        x.delete(0, 2);
        x.insert(0, 2);
        x.see(3, 0, 1);
        x.seed(9);
    }

    private static void nothingChanged() {
        for (int i = -1; i <= 5; i++) {
            int place = i;
            Twin.asked("showing(" + i + ")", ShowingsBoundsTest::worn, x -> x.showing(place));
        }
        for (long row : new long[] {0, 1342, 1234, 3124, 99999}) {
            Twin.asked("look(" + row + ")", ShowingsBoundsTest::worn, x -> x.look(row));
        }
        for (long row : new long[] {104140201213L, 201202804100L, 101104999999L, 134234134234L}) {
            Twin.asked("judge(4, " + row + ")", ShowingsBoundsTest::worn, x -> x.judge(4, row));
        }
        Twin.asked("judge(1, 101)", ShowingsBoundsTest::worn, x -> x.judge(1, 101));
        Twin.asked("judge(1, 201)", ShowingsBoundsTest::worn, x -> x.judge(1, 201));
    }
}
