/** Promises 6 to 10: insert, delete, undo, stamp, edge. */
public final class ActsTest {
    private static final int NONE = CoverOrder.NONE;

    private ActsTest() {
    }

    public static void main(String[] args) {
        insert();
        delete();
        undoInserted();
        undoDeleted();
        undoMany();
        forgotten();
        forgottenDeleted();
        stamp();
        edge();
        Check.end("ActsTest");
    }

    private static void insert() {
        CoverOrder x = Check.graph("D4 01");
        Check.due("insert(3, 2)", x.insert(3, 2), 2);
        Check.due("insert(1, 0)", x.insert(1, 0), 3);
        Check.due("insert(2, 3)", x.insert(2, 3), 4);
        Check.dueRow("after three", x, "01:1 32:2 10:3 23:4");
        Check.due("count(8)", x.count(8), 3);
        Check.due("count(6)", x.count(6), 5);
        Check.due("knot(2, 0) from where none comes", x.knot(2, 0), 0);
        Check.due("insert(1, 2)", x.insert(1, 2), 5);
        Check.due("knot(3, 2)", x.knot(3, 2), 3);
    }

    private static void delete() {
        CoverOrder x = Check.graph("D4 01 12 23 30");
        Check.due("delete(1, 2)", x.delete(1, 2), 2);
        Check.dueRow("without 12", x, "01:1 23:3 30:4");
        Check.due("delete(3, 0)", x.delete(3, 0), 4);
        Check.due("insert(3, 0)", x.insert(3, 0), 5);
        Check.due("delete(3, 0) again", x.delete(3, 0), 5);
        Check.due("insert(1, 2)", x.insert(1, 2), 6);
        Check.dueRow("with a new 12", x, "01:1 23:3 12:6");
        Check.due("delete(0, 1)", x.delete(0, 1), 1);
        Check.due("delete(1, 2) the new one", x.delete(1, 2), 6);
        Check.due("delete(2, 3)", x.delete(2, 3), 3);
        Check.due("count(2)", x.count(2), 0);
        Check.due("count(6)", x.count(6), 7);
        Check.due("count(8)", x.count(8), 8);
    }

    private static void undoInserted() {
        CoverOrder x = Check.graph("D3 01");
        x.insert(1, 2);
        x.insert(2, 0);
        Check.due("undo()", x.undo(), 1);
        Check.dueRow("after one undo", x, "01:1 12:2");
        Check.due("count(6) after one undo", x.count(6), 3);
        Check.due("insert(2, 1) gets the stamp", x.insert(2, 1), 3);
        Check.due("undo() of it", x.undo(), 1);
        Check.due("undo() of the first", x.undo(), 0);
        Check.dueRow("after all", x, "01:1");
        Check.due("count(6) after all", x.count(6), 2);
        Check.due("undo() of nothing", x.undo(), CoverOrder.STATE);
        Check.dueRow("after a refused undo", x, "01:1");
        Check.due("count(6) after a refused undo", x.count(6), 2);
    }

    private static void undoDeleted() {
        CoverOrder x = Check.graph("D4 01 12 23 30");
        x.delete(0, 1);
        x.delete(3, 0);
        x.delete(1, 2);
        Check.dueRow("of one", x, "23:3");
        Check.due("undo() 12", x.undo(), 2);
        Check.dueRow("12 ahead", x, "12:2 23:3");
        Check.due("undo() 30", x.undo(), 1);
        Check.dueRow("30 behind", x, "12:2 23:3 30:4");
        Check.due("undo() 01", x.undo(), 0);
        Check.dueRow("as it was", x, "01:1 12:2 23:3 30:4");
        Check.due("count(6)", x.count(6), 5);
        x.delete(1, 2);
        x.insert(1, 2);
        Check.dueRow("with 12 last", x, "01:1 23:3 30:4 12:5");
        x.undo();
        Check.due("count(6) with 12 not yet back", x.count(6), 5);
        x.undo();
        Check.dueRow("with 12 in its place", x, "01:1 12:2 23:3 30:4");
    }

    private static void undoMany() {
        CoverOrder x = Check.graph("D3 01 02 12");
        x.insert(2, 1);
        x.delete(0, 2);
        x.insert(2, 0);
        x.delete(2, 1);
        Check.dueRow("after four", x, "01:1 12:3 20:5");
        Check.due("count(6) after four", x.count(6), 6);
        x.undo();
        Check.dueRow("after three", x, "01:1 12:3 21:4 20:5");
        x.undo();
        Check.dueRow("after two", x, "01:1 12:3 21:4");
        Check.due("count(6) after two", x.count(6), 5);
        x.undo();
        Check.dueRow("after one", x, "01:1 02:2 12:3 21:4");
        Check.due("undo() of the first", x.undo(), 0);
        Check.dueRow("as at first", x, "01:1 02:2 12:3");
        Check.due("count(6) as at first", x.count(6), 4);
    }

    private static void forgotten() {
        CoverOrder x = Check.graph("D5");
        x.insert(0, 1);
        x.insert(0, 2);
        x.insert(0, 3);
        for (int i = 0; i < 6; i++) {
            x.insert(1, 2);
            x.delete(1, 2);
        }
        Check.due("count(8) after fifteen", x.count(8), 14);
        x.insert(4, 0);
        Check.due("count(8) after sixteen", x.count(8), 14);
        for (int left = 13; left >= 0; left--) {
            Check.due("undo() to " + left, x.undo(), left);
        }
        Check.due("undo() of what is forgotten", x.undo(), CoverOrder.STATE);
        Check.dueRow("that can not be undone", x, "01:1 02:2");
        Check.due("count(6)", x.count(6), 3);
    }

    /** The oldest two acts are forgotten, not any that came later. */
    private static void forgottenDeleted() {
        CoverOrder x = Check.graph("D5 01 02 03 04 10 12 13 14 20 21");
        int[] pairs = {2, 10, 4, 21, 1, 13};
        for (int pair : pairs) {
            x.delete(pair / 10, pair % 10);
        }
        for (int i = 0; i < 5; i++) {
            x.insert(4, 3);
            x.delete(4, 3);
        }
        Check.due("count(8) after sixteen", x.count(8), 14);
        for (int left = 13; left >= 0; left--) {
            Check.due("undo() to " + left, x.undo(), left);
        }
        Check.dueRow("that can not be undone", x, "01:1 03:3 04:4 12:6 13:7 14:8 20:9 21:10");
        Check.due("undo() of what is forgotten", x.undo(), CoverOrder.STATE);
        Check.due("count(6)", x.count(6), 11);
    }

    private static void stamp() {
        CoverOrder x = Check.graph("D4 12 01");
        Check.due("stamp(1, 2)", x.stamp(1, 2), 1);
        Check.due("stamp(0, 1)", x.stamp(0, 1), 2);
        Check.due("stamp(1, 0)", x.stamp(1, 0), NONE);
        Check.due("stamp(1, 1)", x.stamp(1, 1), NONE);
        Check.due("stamp(3, 2)", x.stamp(3, 2), NONE);
        Check.due("stamp(-1, 2)", x.stamp(-1, 2), CoverOrder.UNKNOWN);
        Check.due("stamp(1, -1)", x.stamp(1, -1), CoverOrder.UNKNOWN);
        Check.due("stamp(4, 2)", x.stamp(4, 2), CoverOrder.UNKNOWN);
        Check.due("stamp(0, 12)", x.stamp(0, 12), CoverOrder.UNKNOWN);
        x.delete(1, 2);
        Check.due("stamp(1, 2) deleted", x.stamp(1, 2), NONE);
        x.insert(1, 2);
        Check.due("stamp(1, 2) come again", x.stamp(1, 2), 3);
    }

    /** Stamps go on beyond a hundred. */
    private static void edge() {
        CoverOrder x = Check.graph("D8 76 01");
        Check.due("edge(0)", x.edge(0), 76);
        Check.due("edge(1)", x.edge(1), 1);
        Check.due("edge(2)", x.edge(2), NONE);
        Check.due("edge(-1)", x.edge(-1), NONE);
        Check.due("edge(24)", x.edge(24), NONE);
        Check.due("edge(least)", x.edge(Integer.MIN_VALUE), NONE);
        Check.due("edge(most)", x.edge(Integer.MAX_VALUE), NONE);
        for (int i = 0; i < 120; i++) {
            Check.due("insert(6, 7)", x.insert(6, 7), 3 + i);
            Check.due("delete(6, 7)", x.delete(6, 7), 3 + i);
        }
        Check.due("insert(6, 7) late", x.insert(6, 7), 123);
        Check.due("edge(2) late", x.edge(2), 67);
        Check.due("stamp(6, 7) late", x.stamp(6, 7), 123);
        Check.dueRow("late", x, "76:1 01:2 67:123");
    }
}
