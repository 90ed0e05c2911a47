/** Promises 24 to 26: keep, again, count. */
public final class SlotsTest {
    private static final int NONE = CoverOrder.NONE;

    private SlotsTest() {
    }

    public static void main(String[] args) {
        keepAndAgain();
        twoSlots();
        whatIsNotKept();
        count();
        Check.end("SlotsTest");
    }

    private static void keepAndAgain() {
        CoverOrder x = Check.graph("D4 01 12 23");
        x.delete(1, 2);
        x.insert(1, 2);
        x.insert(3, 0);
        Check.due("keep(0)", x.keep(0), 4);
        Check.due("count(8) after keep", x.count(8), 3);
        x.undo();
        x.insert(0, 3);
        x.insert(0, 2);
        x.delete(0, 1);
        Check.dueRow("gone on", x, "23:3 12:4 03:5 02:6");
        Check.due("again(0)", x.again(0), 4);
        Check.dueRow("again", x, "01:1 23:3 12:4 30:5");
        Check.due("count(6) again", x.count(6), 6);
        Check.due("count(8) again", x.count(8), 0);
        Check.due("undo() again", x.undo(), CoverOrder.STATE);
        Check.due("insert(0, 3) again", x.insert(0, 3), 6);
        Check.due("again(0) once more", x.again(0), 4);
        Check.dueRow("once more", x, "01:1 23:3 12:4 30:5");
        Check.due("stamp(0, 3)", x.stamp(0, 3), NONE);
        Check.due("knot(3, 2)", x.knot(3, 2), 3);
    }

    private static void twoSlots() {
        CoverOrder x = Check.graph("D3 01 12");
        Check.due("keep(1)", x.keep(1), 2);
        Check.due("again(0) with 1 kept", x.again(0), CoverOrder.STATE);
        x.delete(0, 1);
        Check.due("keep(0)", x.keep(0), 1);
        x.delete(1, 2);
        Check.due("again(1)", x.again(1), 2);
        Check.dueRow("of slot 1", x, "01:1 12:2");
        Check.due("again(0)", x.again(0), 1);
        Check.dueRow("of slot 0", x, "12:2");
        x.insert(2, 1);
        Check.due("keep(1) over what was kept", x.keep(1), 2);
        x.again(0);
        Check.due("again(1) of the later", x.again(1), 2);
        Check.dueRow("of the later slot 1", x, "12:2 21:3");
    }

    private static void whatIsNotKept() {
        CoverOrder x = Check.graph("D3 01 12");
        x.keep(0);
        x.see(2, 1, 1);
        x.seed(9);
        x.write('0');
        x.again(0);
        Check.due("count(9) after again", x.count(9), 1);
        Check.due("seed after again", x.seed(0), 9);
        Check.due("count(0) after again", x.count(0), 7);
        x.wipe();
        Check.write(x, "D2");
        Check.due("again(0) after wipe", x.again(0), 2);
        Check.due("graph()", x.graph(), 0);
        Check.due("again(0) after graph", x.again(0), CoverOrder.STATE);
        Check.due("keep(0) of no edges", x.keep(0), 0);
        Check.due("again(0) of no edges", x.again(0), 0);
        Check.due("count(1)", x.count(1), 2);
    }

    private static void due(CoverOrder x, int... want) {
        String row = Check.row(x);
        for (int what = 0; what < want.length; what++) {
            Check.due("count(" + what + ") of " + row, x.count(what), want[what]);
        }
    }

    private static void count() {
        CoverOrder x = Check.graph("D7 01 12 23 31 45 53 56");
        due(x, 16, 7, 7, 4, 6, 3, 8, 4, 0, 0);
        x.insert(0, 5);
        due(x, 16, 7, 8, 6, 7, 2, 9, 7, 1, 0);
        x.delete(0, 1);
        x.see(1, 1, 1);
        x.see(1, 1, 0);
        due(x, 16, 7, 7, 6, 12, 4, 9, 6, 2, 2);
        x.delete(0, 5);
        due(x, 16, 7, 6, 1, 0, 0, 9, 0, 3, 2);
        x.undo();
        x.unsee();
        x.wipe();
        due(x, 0, 7, 7, 6, 12, 4, 9, 6, 2, 0);
        due(Check.graph("D8 01 12 23 34 45 56 67"), 16, 8, 7, 8, 28, 7, 8, 7, 0, 0);
    }
}
