/** INSERTED, DELETED, ACTS of the terms, promises 6 to 10: each boundary. */
public final class ActsBoundsTest {
    private static final int NONE = CoverOrder.NONE;

    private ActsBoundsTest() {
    }

    public static void main(String[] args) {
        Check.sentence("INSERTED: an EDGE that is not there comes at the end of the row",
                ActsBoundsTest::atTheEnd);
        Check.sentence("(24 at most)", ActsBoundsTest::twentyFour);
        Check.sentence("with the next STAMP", ActsBoundsTest::nextStamp);
        Check.sentence("DELETED: an EDGE is gone from the row", ActsBoundsTest::goneFromTheRow);
        Check.sentence("its STAMP is given to none again", ActsBoundsTest::givenToNone);
        Check.sentence("ACTS are a row (14 at most)", ActsBoundsTest::fourteen);
        Check.sentence("of more the first one is forgotten", ActsBoundsTest::firstForgotten);
        Check.sentence("the last one can be undone: all is as it was",
                ActsBoundsTest::undoneInsert);
        Check.sentence("all is as it was: at its place in the row", ActsBoundsTest::undoneDelete);
        Check.sentence("STAMPS, too", ActsBoundsTest::undoneStamps);
        Check.sentence("all is as it was: all that can be told", ActsBoundsTest::undoneAll);
        Check.sentence("6: its STAMP", ActsBoundsTest::insertedStamp);
        Check.sentence("7: its STAMP", ActsBoundsTest::deletedStamp);
        Check.sentence("8: how many are left", ActsBoundsTest::howManyAreLeft);
        Check.sentence("9: NONE: it is not there", ActsBoundsTest::stampOfNone);
        Check.sentence("10: The i-th EDGE of the row (from 0)", ActsBoundsTest::ithEdge);
        Check.sentence("10: NONE: there is none such", ActsBoundsTest::noSuchEdge);
        Check.end("ActsBoundsTest");
    }

    private static void atTheEnd() {
        CoverOrder x = Check.graph("D8");
        x.insert(7, 6);
        Check.dueRow("of one", x, "76:1");
        x.insert(0, 1);
        Check.dueRow("of two", x, "76:1 01:2");
        x.insert(6, 7);
        Check.dueRow("of three", x, "76:1 01:2 67:3");
        x.delete(0, 1);
        x.insert(1, 0);
        Check.dueRow("not where one has gone", x, "76:1 67:3 10:4");
    }

    private static void twentyFour() {
        CoverOrder x = Check.graph(Check.FULL.substring(0, Check.FULL.length() - 4));
        Check.due("insert the edge 23", x.insert(7, 6), 23);
        Check.due("insert the edge 24", x.insert(7, 5), 24);
        Check.due("insert the edge 25", x.insert(7, 4), CoverOrder.FULL);
        Check.due("count(2)", x.count(2), 24);
        Check.due("edge(23)", x.edge(23), 75);
        Check.due("delete one of 24", x.delete(0, 1), 1);
        Check.due("insert the edge 24 anew", x.insert(7, 4), 25);
        Check.due("insert the edge 25 still", x.insert(7, 3), CoverOrder.FULL);
        Check.due("edge(23) anew", x.edge(23), 74);
    }

    private static void nextStamp() {
        CoverOrder x = Check.graph("D3 01 12");
        Check.due("count(6) is the next", x.count(6), 3);
        Check.due("insert(2, 0)", x.insert(2, 0), 3);
        Check.due("insert(1, 0)", x.insert(1, 0), 4);
        Check.due("count(6) then", x.count(6), 5);
        Check.due("the first of all", Check.graph("D2").insert(1, 0), 1);
    }

    private static void goneFromTheRow() {
        CoverOrder x = Check.graph("D5 01 12 23 34 40");
        x.delete(0, 1);
        Check.dueRow("without the first", x, "12:2 23:3 34:4 40:5");
        x.delete(4, 0);
        Check.dueRow("without the last", x, "12:2 23:3 34:4");
        x.delete(2, 3);
        Check.dueRow("without one between", x, "12:2 34:4");
        x.delete(1, 2);
        x.delete(3, 4);
        Check.dueRow("without any", x, "");
        Check.due("count(2) without any", x.count(2), 0);
        Check.due("delete(3, 4) that has gone", x.delete(3, 4), CoverOrder.STATE);
        x = Check.graph(Check.FULL);
        Check.due("delete the last of 24", x.delete(3, 2), 24);
        Check.due("edge(22)", x.edge(22), 31);
        Check.due("edge(23)", x.edge(23), NONE);
        Check.due("delete the first of 23", x.delete(0, 1), 1);
        Check.due("edge(0)", x.edge(0), 2);
        Check.due("edge(21)", x.edge(21), 31);
        Check.due("edge(22) then", x.edge(22), NONE);
    }

    private static void givenToNone() {
        CoverOrder x = Check.graph("D3 01 12");
        x.delete(1, 2);
        Check.due("count(6) with the last stamp gone", x.count(6), 3);
        Check.due("insert(1, 2) once more", x.insert(1, 2), 3);
        x.delete(0, 1);
        x.delete(1, 2);
        Check.due("count(6) with all gone", x.count(6), 4);
        Check.due("insert(0, 1) with all gone", x.insert(0, 1), 4);
    }

    private static void fourteen() {
        for (int acts = 12; acts <= 16; acts++) {
            CoverOrder x = Check.graph("D8");
            for (int i = 1; i <= acts; i++) {
                Check.due("insert " + i, x.insert((i - 1) / 4, 4 + (i - 1) % 4), i);
                Check.due("count(8) after " + i, x.count(8), Math.min(i, 14));
            }
            Check.due("undo() after " + acts, x.undo(), Math.min(acts, 14) - 1);
        }
    }

    /** Once an insert is the first, once a delete; the next one is then the first. */
    private static void firstForgotten() {
        CoverOrder x = Check.graph("D3 10");
        x.insert(0, 1);
        x.delete(1, 0);
        x.insert(1, 2);
        moreActs(x, 11);
        undoAll(x);
        Check.dueRow("with fourteen undone", x, "10:1");
        x.insert(0, 1);
        x.delete(1, 0);
        x.insert(1, 2);
        moreActs(x, 12);
        undoAll(x);
        Check.dueRow("with an insert forgotten", x, "10:1 01:2");
        Check.due("count(6) with an insert forgotten", x.count(6), 3);
        x.delete(1, 0);
        x.delete(0, 1);
        x.insert(1, 2);
        moreActs(x, 12);
        undoAll(x);
        Check.dueRow("with a delete forgotten", x, "01:2");
        Check.due("count(6) with a delete forgotten", x.count(6), 3);
        moreActs(x, 40);
        undoAll(x);
        Check.due("count(6) with 26 forgotten", x.count(6), 3 + 13);
    }

    private static void moreActs(CoverOrder x, int acts) {
        for (int i = 0; i < acts; i++) {
            Check.due("act " + i + " is not refused", i % 2 == 0 ? sign(x.insert(2, 0))
                    : sign(x.delete(2, 0)), 1);
        }
    }

    private static int sign(int answer) {
        return Integer.signum(answer);
    }

    private static void undoAll(CoverOrder x) {
        for (int left = 13; left >= 0; left--) {
            Check.due("undo()", x.undo(), left);
        }
        Check.due("undo() of what is forgotten", x.undo(), CoverOrder.STATE);
    }

    private static void undoneInsert() {
        CoverOrder x = Check.graph("D3 01");
        x.insert(1, 2);
        Check.due("undo()", x.undo(), 0);
        Check.dueRow("as it was", x, "01:1");
        Check.due("knot(2, 0) as it was", x.knot(2, 0), 0);
        x = Check.graph("D2");
        x.insert(0, 1);
        x.undo();
        Check.dueRow("empty as it was", x, "");
        x = Check.graph(Check.FULL.substring(0, Check.FULL.length() - 2));
        x.insert(7, 6);
        x.undo();
        Check.due("the 24th undone", x.edge(23), NONE);
        Check.due("insert another 24th", x.insert(7, 5), 24);
    }

    private static void undoneDelete() {
        String row = "01:1 12:2 23:3 34:4 40:5";
        int[] pairs = {1, 12, 23, 34, 40};
        for (int pair : pairs) {
            CoverOrder x = Check.graph("D5 01 12 23 34 40");
            Check.due("delete of " + pair, x.delete(pair / 10, pair % 10) > 0 ? 1 : 0, 1);
            Check.due("undo() of " + pair, x.undo(), 0);
            Check.dueRow("with " + pair + " back", x, row);
        }
        CoverOrder x = Check.graph("D5 01 12 23 34 40");
        for (int pair : new int[] {23, 1, 40, 12, 34}) {
            x.delete(pair / 10, pair % 10);
        }
        Check.due("count(2) of none", x.count(2), 0);
        for (int left = 4; left >= 0; left--) {
            Check.due("undo()", x.undo(), left);
        }
        Check.dueRow("with all back", x, row);
        x = Check.graph(Check.FULL);
        x.delete(0, 1);
        x.delete(3, 2);
        x.undo();
        x.undo();
        Check.due("edge(0) of 24 as it was", x.edge(0), 1);
        Check.due("edge(23) of 24 as it was", x.edge(23), 32);
        Check.due("insert into 24 as it was", x.insert(3, 4), CoverOrder.FULL);
    }

    private static void undoneStamps() {
        CoverOrder x = Check.graph("D3 01 12");
        x.insert(2, 0);
        x.undo();
        Check.due("count(6) with an insert undone", x.count(6), 3);
        Check.due("insert(2, 1)", x.insert(2, 1), 3);
        x.undo();
        x.delete(0, 1);
        Check.due("count(6) after a delete", x.count(6), 3);
        x.undo();
        Check.due("stamp(0, 1) with a delete undone", x.stamp(0, 1), 1);
        Check.due("count(6) with a delete undone", x.count(6), 3);
        x.delete(1, 2);
        x.insert(1, 2);
        Check.due("stamp(1, 2) come anew", x.stamp(1, 2), 3);
        x.undo();
        x.undo();
        Check.due("stamp(1, 2) with both undone", x.stamp(1, 2), 2);
        Check.due("count(6) with both undone", x.count(6), 3);
    }

    private static void worn(CoverOrder x) {
        Check.regraphed(x, "D5 01 12 23 34 40");
        x.insert(0, 2);
        x.keep(0);
        x.delete(1, 2);
        x.see(2, 0, 1);
        x.seed(3);
        x.write('D');
    }

    private static void undoneAll() {
        for (int pair : new int[] {1, 23, 34, 40, 2}) {
            Twin.asked("delete of " + pair + " and undo", ActsBoundsTest::worn, x -> {
                x.delete(pair / 10, pair % 10);
                x.undo();
            });
        }
        for (int pair : new int[] {10, 12, 43}) {
            Twin.asked("insert of " + pair + " and undo", ActsBoundsTest::worn, x -> {
                x.insert(pair / 10, pair % 10);
                x.undo();
            });
        }
        Twin.asked("twelve acts and undo", ActsBoundsTest::worn, x -> {
            for (int i = 0; i < 6; i++) {
                x.delete(2, 3);
                x.insert(2, 3);
            }
            for (int i = 0; i < 12; i++) {
                x.undo();
            }
        });
    }

    private static void insertedStamp() {
        CoverOrder x = Check.graph("D3");
        Check.due("insert of the first", x.insert(0, 2), 1);
        Check.due("its stamp", x.stamp(0, 2), 1);
        Check.due("insert of the next", x.insert(2, 0), 2);
        Check.due("the next one's stamp", x.stamp(2, 0), 2);
        Check.due("the first one's stamp still", x.stamp(0, 2), 1);
    }

    private static void deletedStamp() {
        CoverOrder x = Check.graph(Check.FULL);
        Check.due("delete of the last", x.delete(3, 2), 24);
        Check.due("delete of the first", x.delete(0, 1), 1);
        Check.due("delete of one between", x.delete(1, 0), 8);
        Check.due("insert", x.insert(7, 6), 25);
        Check.due("delete of it", x.delete(7, 6), 25);
    }

    private static void howManyAreLeft() {
        CoverOrder x = Check.graph("D3");
        x.insert(0, 1);
        Check.due("undo() of one", x.undo(), 0);
        for (int i = 0; i < 7; i++) {
            x.insert(0, 1);
            x.delete(0, 1);
        }
        for (int left = 13; left >= 0; left--) {
            Check.due("undo()", x.undo(), left);
            Check.due("count(8)", x.count(8), left);
        }
    }

    private static void stampOfNone() {
        CoverOrder x = Check.graph("D8 07 12");
        Check.due("stamp(7, 0), turned round", x.stamp(7, 0), NONE);
        Check.due("stamp(0, 0)", x.stamp(0, 0), NONE);
        Check.due("stamp(7, 7)", x.stamp(7, 7), NONE);
        Check.due("stamp(0, 1)", x.stamp(0, 1), NONE);
        Check.due("stamp(0, 7)", x.stamp(0, 7), 1);
        x.delete(0, 7);
        Check.due("stamp(0, 7) gone", x.stamp(0, 7), NONE);
        Check.due("stamp(0, 0) of one knot", new CoverOrder().stamp(0, 0), NONE);
    }

    private static void ithEdge() {
        CoverOrder x = Check.graph("D8 01 70 76");
        Check.due("edge(0), less than 10", x.edge(0), 1);
        Check.due("edge(1)", x.edge(1), 70);
        Check.due("edge(2), the last", x.edge(2), 76);
        x = Check.graph(Check.FULL);
        for (int i = 0; i < 24; i++) {
            int from = i / 7;
            int to = i % 7 + (i % 7 >= from ? 1 : 0);
            Check.due("edge(" + i + ") of 24", x.edge(i), 10 * from + to);
        }
    }

    private static void noSuchEdge() {
        for (int i : new int[] {-1, 3, 4, 24, 256, Check.LEAST, Check.MOST}) {
            Check.due("edge(" + i + ") of three", Check.graph("D8 01 70 76").edge(i), NONE);
        }
        for (int i : new int[] {-1, 24, 25, 256, Check.LEAST, Check.MOST}) {
            Check.due("edge(" + i + ") of 24", Check.graph(Check.FULL).edge(i), NONE);
        }
        for (int i : new int[] {-1, 0, 1}) {
            Check.due("edge(" + i + ") of none", new CoverOrder().edge(i), NONE);
        }
    }
}
