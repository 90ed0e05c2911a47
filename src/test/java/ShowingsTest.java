/** Promises 14 to 16: showing, look, judge. */
public final class ShowingsTest {
    private static final int NONE = CoverOrder.NONE;

    private ShowingsTest() {
    }

    public static void main(String[] args) {
        showing();
        showingWithWaysBack();
        showingOutside();
        lookAtPlaces();
        lookAtWhatShows();
        judgeEdges();
        judgeCovers();
        judgeWhatWasDone();
        judgeWhatCanNotBe();
        judgeFull();
        Check.end("ShowingsTest");
    }

    private static void showing(String text, String want) {
        Check.dueShowing(text, Check.graph(text), want);
    }

    private static void showing() {
        showing("D1", "0");
        showing("D3", "0");
        showing("D4 01 12 23", "0123");
        showing("D4 02 21 13", "0213");
        showing("D5 04 03 02 01", "01234");
        showing("D5 02 01 24 13", "01324");
        // What 1 covers stands together, ahead of 2.
        showing("D6 01 02 15 14 43", "014352");
        showing("D5 02 34", "02");
    }

    private static void showingWithWaysBack() {
        // 3 needs one ahead and one behind.
        showing("D4 01 02 13 23", "0132");
        showing("D5 03 02 24 34", "0243");
        showing("D4 01 02 13 23 12", "0132");
        // That 4 stands behind 3 shows nothing, as 3 covers it.
        showing("D6 01 02 13 23 34 43 45", "013452");
        showing("D7 65 46 15 63 56 13 03 51 01 34 32 52 54 25 23 45", "0152643");
        showing("D8 62 07 63 35 64 23 75 31 65 71 32 42 16 34 52 57 06", "06431257");
        showing("D8 02 35 37 17 62 43 16 24 25 76 21 73 05 15 13 14 01 61", "01567342");
        showing("D8 46 16 06 64 12 51 13 57 62 54 45 32 41 37 73 05", "05731246");
        showing("D8 02 21 24 17 06 45 03 71 25 57 54 31 26 27 14", "02546713");
    }

    private static void showingOutside() {
        CoverOrder x = Check.graph("D5 01 12 34");
        Check.due("showing(-1)", x.showing(-1), NONE);
        Check.due("showing(3)", x.showing(3), NONE);
        Check.due("showing(8)", x.showing(8), NONE);
        Check.due("showing(least)", x.showing(Integer.MIN_VALUE), NONE);
        Check.due("showing(most)", x.showing(Integer.MAX_VALUE), NONE);
        Check.due("showing(2)", x.showing(2), 2);
        x.insert(0, 2);
        x.insert(2, 1);
        x.delete(0, 1);
        Check.dueShowing("an edited graph", x, "021");
        x.undo();
        Check.dueShowing("a graph undone", x, "012");
        Check.dueRow("after showing", x, "01:1 12:2 34:3 02:4 21:5");
    }

    private static void look(String text, long... want) {
        CoverOrder x = Check.graph(text);
        for (int i = 0; i < want.length; i += 2) {
            Check.due(text + ": look(" + want[i] + ")", x.look(want[i]), want[i + 1]);
        }
    }

    private static void lookAtPlaces() {
        look("D1", 0, NONE, 1, 0, 9, 0);
        look("D4 01 12 23", 123, NONE, 132, 2, 213, 1, 321, 1, 1023, 0, 120, 3, 122, 3, 0, 1, 3, 1);
        // Only 0 and 1 are reached.
        look("D4 01 23", 1, NONE, 2, 1, 3, 1, 9, 1, 11, 0, 0, 1, 10, 0, 99, 0);
        look("D6 01 02 15 14 43", 14352, NONE, 14532, 4, 21435, NONE, 14325, 5, 15432, NONE,
                12345, 3, 21453, 5);
        // 3 at place 1 shows nothing, but 4 stands behind it in a wrong place.
        look("D5 01 02 13 23 14", 3124, 4, 3142, 1, 1432, NONE, 1423, 4, 1342, 3);
        look("D8 01 12 23 34 45 56 67", 1234567, NONE, 1234576, 6, 1234568, 7, 99999999, 0);
    }

    private static void lookAtWhatShows() {
        look("D4 01 02 13 23", 132, NONE, 231, NONE, 123, 3, 213, 3, 312, 1, 321, 1);
        look("D6 01 02 13 23 34 43 45", 13452, NONE, 23451, NONE, 12345, 3, 13425, 5, 21345, 3);
        look("D4 01 02 03 13 23", 123, NONE, 312, NONE, 213, NONE);
        // From 4 an edge leads to 3, but 4 is not reached.
        look("D5 01 02 13 23 43", 123, 3, 132, NONE);
        look("D5 02 34 32 42", 2, NONE);
    }

    private static void judge(String text, long... want) {
        CoverOrder x = Check.graph(text);
        String row = Check.row(x);
        for (int i = 0; i < want.length; i += 3) {
            Check.due(text + ": judge(" + want[i] + ", " + want[i + 1] + ")",
                    x.judge((int) want[i], want[i + 1]), want[i + 2]);
        }
        Check.dueRow("after judge", x, row);
        Check.due("count(6) after judge", x.count(6), x.count(2) + 1);
        Check.due("count(8) after judge", x.count(8), 0);
    }

    private static void judgeEdges() {
        judge("D3 01 12", 1, 102, NONE, 1, 101, 0, 1, 111, 0, 1, 103, 0, 1, 130, 0, 1, 190, 0,
                1, 201, NONE, 1, 202, 0, 1, 210, 0, 1, 211, 0, 1, 213, 0, 1, 231, 0, 1, 209, 0,
                2, 201201, 1, 2, 102102, 1, 2, 102202, NONE, 2, 201101, NONE, 3, 201101101, 2,
                4, 102120121110L, NONE, 4, 102120121122L, 3, 1, 12, 0, 1, 912, 0, 1, 0, 0);
    }

    private static void judgeCovers() {
        String graph = "D6 01 12 23 34 03 24";
        judge(graph, 1, 300, NONE, 1, 304, NONE, 1, 312, NONE, 1, 311, NONE, 1, 321, 0, 1, 323, 0,
                1, 355, 0, 1, 305, 0, 1, 350, 0, 1, 306, 0, 1, 360, 0);
        judge(graph, 1, 401, NONE, 1, 412, NONE, 1, 402, 0, 1, 403, NONE, 1, 404, NONE, 1, 424, 0,
                1, 400, 0, 1, 405, 0, 1, 495, 0, 1, 490, 0, 1, 409, 0);
        judge(graph, 1, 500, NONE, 1, 511, NONE, 1, 522, NONE, 1, 531, NONE, 1, 541, NONE,
                1, 542, 0, 1, 550, 0, 1, 551, 0, 1, 559, 0, 1, 560, 0, 1, 570, 0, 1, 599, 0);
        judge(graph, 1, 601, NONE, 1, 612, NONE, 1, 603, NONE, 1, 624, NONE, 1, 604, 0, 1, 634, 0,
                1, 600, 0, 1, 605, 0, 1, 690, 0, 1, 606, 0, 1, 695, 0);
        judge(graph, 1, 713, NONE, 1, 714, NONE, 1, 723, NONE, 1, 734, NONE, 1, 703, 0, 1, 733, 0,
                1, 731, 0, 1, 755, 0, 1, 700, 0, 1, 763, 0, 1, 736, 0);
        judge(graph, 1, 800, NONE, 1, 804, NONE, 1, 805, NONE, 1, 806, 0, 1, 809, 0, 1, 815, 0,
                1, 811, 0, 1, 890, 0);
    }

    private static void judgeWhatWasDone() {
        judge("D4 01 12 23", 2, 203801, 0, 2, 201801, NONE, 2, 201802, 1, 3, 103403513L, 2,
                3, 103403531L, NONE, 4, 103403531201L, NONE, 4, 103201530802L, 2,
                3, 120720700L, NONE, 2, 720120, 0, 3, 120700201L, NONE, 3, 120201700L, 2,
                4, 102503203804L, 1);
        // An edge that comes again comes last, so the walk goes another way.
        judge("D4 01 02 13 23 32", 1, 602, NONE, 1, 613, 0, 1, 603, NONE);
        judge("D4 01 12 23 03", 1, 603, NONE, 3, 203623103, NONE, 3, 201101623, 2);
        judge("D5 01 02 12 23 24 43", 1, 623, NONE, 3, 223123623, NONE);
        judge("D4 01 12 02 21", 2, 602601, NONE, 3, 201101602, NONE, 4, 201101201802L, NONE);
    }

    private static void judgeWhatCanNotBe() {
        judge("D2 01", 1, 1, 0, 1, 901, 0, 1, 999, 0, 2, 801, 0, 2, 801801, NONE, 2, 802802, NONE,
                2, 802803, 1, 4, 802802802802L, NONE, 4, 802802802803L, 3, 4, 803802802802L, 0,
                4, 999999999999L, 0, 4, 0, 0, 3, 801801000, 2, 3, 801000801, 1);
        judge("D1", 1, 300, NONE, 1, 500, NONE, 1, 400, 0, 1, 600, 0, 1, 700, 0, 1, 801, NONE,
                1, 802, 0, 1, 101, 0, 1, 100, 0, 1, 200, 0);
    }

    private static void judgeFull() {
        judge(Check.FULL, 1, 134, 0, 1, 132, 0, 2, 232134, NONE, 3, 232134135, 2, 3, 232134132, 2,
                2, 232132, NONE, 1, 808, NONE);
    }
}
