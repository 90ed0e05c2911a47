/** SLOTS of the terms, promises 24 to 26: each boundary. */
public final class SlotsBoundsTest {
    private static final int NONE = CoverOrder.NONE;

    private SlotsBoundsTest() {
    }

    public static void main(String[] args) {
        Check.sentence("SLOTS 0 to 1", SlotsBoundsTest::slots);
        Check.sentence("keep EDGES", SlotsBoundsTest::edges);
        Check.sentence("keep STAMPS", SlotsBoundsTest::stamps);
        Check.sentence("THE ROW of ACTS is empty when one goes on", SlotsBoundsTest::actsEmpty);
        Check.sentence("24: They are kept: how many EDGES", SlotsBoundsTest::keep);
        Check.sentence("24: each SLOT for itself", SlotsBoundsTest::eachForItself);
        Check.sentence("24: kept over what was kept", SlotsBoundsTest::keptOver);
        Check.sentence("25: They are as they were kept: how many EDGES", SlotsBoundsTest::again);
        Check.sentence("25: once more", SlotsBoundsTest::onceMore);
        Check.sentence("25: STATE: none were kept", SlotsBoundsTest::noneKept);
        Check.sentence("26: 0 letters of THE TEXT", SlotsBoundsTest::countLetters);
        Check.sentence("26: 1 KNOTS", SlotsBoundsTest::countKnots);
        Check.sentence("26: 2 EDGES", SlotsBoundsTest::countEdges);
        Check.sentence("26: 3 how many KNOTS are REACHED", SlotsBoundsTest::countReached);
        Check.sentence("26: 4 DEPTHS of these together", SlotsBoundsTest::countDepths);
        Check.sentence("26: 5 the greatest DEPTH", SlotsBoundsTest::countGreatest);
        Check.sentence("26: 6 the next STAMP", SlotsBoundsTest::countStamp);
        Check.sentence("26: 7 EDGES that lie between such as are REACHED",
                SlotsBoundsTest::countBetween);
        Check.sentence("26: 8 ACTS in the row", SlotsBoundsTest::countActs);
        Check.sentence("26: 9 SEEN", SlotsBoundsTest::countSeen);
        Check.sentence("26: OUTSIDE", SlotsBoundsTest::countOutside);
        Check.sentence("what is only asked changes nothing", SlotsBoundsTest::nothingChanged);
        Check.end("SlotsBoundsTest");
    }

    private static void slots() {
        CoverOrder x = Check.graph("D2 01");
        Check.due("keep(-1)", x.keep(-1), CoverOrder.UNKNOWN);
        Check.due("keep(2)", x.keep(2), CoverOrder.UNKNOWN);
        Check.due("keep(0)", x.keep(0), 1);
        Check.due("keep(1)", x.keep(1), 1);
        Check.due("again(-1)", x.again(-1), CoverOrder.UNKNOWN);
        Check.due("again(2)", x.again(2), CoverOrder.UNKNOWN);
        Check.due("again(0)", x.again(0), 1);
        Check.due("again(1)", x.again(1), 1);
    }

    private static void edges() {
        CoverOrder x = Check.graph("D4 23 01 12");
        x.keep(0);
        x.delete(2, 3);
        x.insert(3, 0);
        x.insert(2, 3);
        x.again(0);
        Check.dueRow("as kept", x, "23:1 01:2 12:3");
        Check.due("edge(3)", x.edge(3), NONE);
        Check.due("knot(3, 1)", x.knot(3, 1), 2);
        x = Check.graph(Check.FULL);
        x.keep(1);
        x.delete(0, 1);
        x.delete(3, 2);
        x.again(1);
        Check.due("edge(0) of 24", x.edge(0), 1);
        Check.due("edge(23) of 24", x.edge(23), 32);
        Check.due("insert into 24", x.insert(3, 4), CoverOrder.FULL);
    }

    private static void stamps() {
        CoverOrder x = Check.graph("D4 01 12");
        x.delete(0, 1);
        x.insert(2, 3);
        x.insert(0, 1);
        x.keep(0);
        x.insert(3, 0);
        x.delete(0, 1);
        x.insert(0, 1);
        Check.dueRow("gone on", x, "12:2 23:3 30:5 01:6");
        x.again(0);
        Check.dueRow("as kept", x, "12:2 23:3 01:4");
        Check.due("the next stamp as kept", x.count(6), 5);
        Check.due("insert(3, 1)", x.insert(3, 1), 5);
    }

    private static void actsEmpty() {
        CoverOrder x = Check.graph("D3 01 12");
        x.insert(2, 0);
        Check.due("keep(0)", x.keep(0), 3);
        Check.due("count(8) when kept", x.count(8), 1);
        Check.due("undo() when kept", x.undo(), 0);
        x.insert(2, 1);
        Check.due("again(0)", x.again(0), 3);
        Check.due("count(8) when gone on", x.count(8), 0);
        Check.due("undo() when gone on", x.undo(), CoverOrder.STATE);
        Check.dueRow("when gone on", x, "01:1 12:2 20:3");
        x.delete(2, 0);
        Check.due("undo() of what came after", x.undo(), 0);
        Check.dueRow("with that undone", x, "01:1 12:2 20:3");
        for (int i = 0; i < 8; i++) {
            x.insert(2, 1);
            x.delete(2, 1);
        }
        x.again(0);
        Check.due("count(8) after fourteen", x.count(8), 0);
        x.delete(0, 1);
        Check.due("undo() of what came after fourteen", x.undo(), 0);
        Check.dueRow("with that undone, too", x, "01:1 12:2 20:3");
    }

    private static void keep() {
        CoverOrder x = new CoverOrder();
        Check.due("keep(0) of none", x.keep(0), 0);
        Check.regraph(x, Check.FULL);
        Check.due("keep(0) of 24", x.keep(0), 24);
        x.delete(0, 1);
        Check.due("keep(1) of 23", x.keep(1), 23);
    }

    private static void eachForItself() {
        CoverOrder x = Check.graph("D3 01 12");
        x.keep(0);
        x.delete(0, 1);
        Check.due("again(1) with 0 kept", x.again(1), CoverOrder.STATE);
        x.keep(1);
        x.delete(1, 2);
        x.again(0);
        Check.dueRow("slot 0", x, "01:1 12:2");
        x.again(1);
        Check.dueRow("slot 1", x, "12:2");
        x.again(0);
        Check.dueRow("slot 0 still", x, "01:1 12:2");
    }

    private static void keptOver() {
        CoverOrder x = Check.graph("D3 01 12");
        x.keep(0);
        x.delete(0, 1);
        Check.due("keep(0) over it", x.keep(0), 1);
        x.insert(2, 0);
        Check.due("again(0)", x.again(0), 1);
        Check.dueRow("the later", x, "12:2");
    }

    private static void again() {
        CoverOrder x = Check.graph(Check.FULL);
        x.keep(0);
        x.delete(0, 1);
        Check.due("again(0) of 24", x.again(0), 24);
        Check.due("count(2)", x.count(2), 24);
        x = Check.graph("D3");
        x.keep(0);
        x.insert(0, 1);
        Check.due("again(0) of none", x.again(0), 0);
        Check.due("count(2)", x.count(2), 0);
        Check.due("count(6)", x.count(6), 1);
        Check.due("knot(1, 0)", x.knot(1, 0), 0);
    }

    private static void onceMore() {
        CoverOrder x = Check.graph("D3 01");
        x.keep(1);
        for (int i = 0; i < 3; i++) {
            Check.due("insert(1, 2)", x.insert(1, 2), 2);
            Check.due("delete(0, 1)", x.delete(0, 1), 1);
            Check.due("again(1)", x.again(1), 1);
            Check.dueRow("as kept", x, "01:1");
        }
    }

    private static void noneKept() {
        CoverOrder x = new CoverOrder();
        Check.due("again(0)", x.again(0), CoverOrder.STATE);
        Check.due("again(1)", x.again(1), CoverOrder.STATE);
        x.keep(1);
        Check.due("again(0) with 1 kept", x.again(0), CoverOrder.STATE);
        Check.due("again(1)", x.again(1), 0);
        Check.regraph(x, "D1");
        Check.due("again(1) in a graph anew", x.again(1), CoverOrder.STATE);
    }

    /** The counts of what. */
    private static void count(String text, int what, int want) {
        Check.due("count(" + what + ") of " + text, Check.graph(text).count(what), want);
    }

    private static void countLetters() {
        CoverOrder x = new CoverOrder();
        Check.due("count(0) of none", x.count(0), 0);
        for (int i = 1; i <= 64; i++) {
            x.write(0);
            Check.due("count(0)", x.count(0), i);
        }
        x.write(0);
        Check.due("count(0) of 64", x.count(0), 64);
        x.wipe();
        Check.due("count(0) wiped", x.count(0), 0);
    }

    private static void countKnots() {
        Check.due("count(1) at first", new CoverOrder().count(1), 1);
        for (int n = 1; n <= 8; n++) {
            count("D" + n, 1, n);
        }
    }

    private static void countEdges() {
        Check.due("count(2) at first", new CoverOrder().count(2), 0);
        count("D8", 2, 0);
        count(Check.FULL, 2, 24);
    }

    private static void countReached() {
        Check.due("count(3) at first", new CoverOrder().count(3), 1);
        count("D8", 3, 1);
        count("D8 12 23 31", 3, 1);
        count(Check.CHAIN, 3, 8);
        count("D8 01 12 23 34 45 56", 3, 7);
    }

    private static void countDepths() {
        Check.due("count(4) at first", new CoverOrder().count(4), 0);
        count("D8 12", 4, 0);
        count(Check.CHAIN, 4, 28);
        count("D8 01 02 03 04 05 06 07", 4, 7);
        count("D8 01 12 34", 4, 3);
    }

    private static void countGreatest() {
        Check.due("count(5) at first", new CoverOrder().count(5), 0);
        count("D8 12 23", 5, 0);
        count(Check.CHAIN, 5, 7);
        count("D8 07", 5, 1);
        count("D4 01 12 03 23", 5, 2);
    }

    private static void countStamp() {
        Check.due("count(6) at first", new CoverOrder().count(6), 1);
        count("D8", 6, 1);
        count(Check.FULL, 6, 25);
        CoverOrder x = Check.graph("D2 01");
        x.delete(0, 1);
        Check.due("count(6) with none there", x.count(6), 2);
        x.insert(0, 1);
        Check.due("count(6) with one come anew", x.count(6), 3);
    }

    private static void countBetween() {
        Check.due("count(7) at first", new CoverOrder().count(7), 0);
        count("D4 10 23 32 31", 7, 0);
        count("D4 01 10 23 32 31 20", 7, 2);
        count(Check.CHAIN, 7, 7);
        count("D8 02 27 31", 7, 2);
        count("D8 07 76 10 12", 7, 2);
        count(Check.FULL, 7, 24);
    }

    private static void countActs() {
        CoverOrder x = Check.graph("D2");
        Check.due("count(8) of none", x.count(8), 0);
        for (int i = 1; i <= 16; i++) {
            if (i % 2 == 1) {
                x.insert(1, 0);
            } else {
                x.delete(1, 0);
            }
            Check.due("count(8) after " + i, x.count(8), Math.min(i, 14));
        }
        x.undo();
        Check.due("count(8) after undo", x.count(8), 13);
    }

    private static void countSeen() {
        CoverOrder x = new CoverOrder();
        Check.due("count(9) of none", x.count(9), 0);
        for (int i = 1; i <= 8; i++) {
            x.see(0, 0, 0);
            Check.due("count(9) after " + i, x.count(9), Math.min(i, 6));
        }
        x.unsee();
        Check.due("count(9) after unsee", x.count(9), 0);
    }

    private static void countOutside() {
        for (int what : new int[] {-1, 10, 11, 256, Check.LEAST, Check.MOST}) {
            Check.due("count(" + what + ")", new CoverOrder().count(what), CoverOrder.OUTSIDE);
            Check.due("count(" + what + ") of 24", Check.graph(Check.FULL).count(what),
                    CoverOrder.OUTSIDE);
        }
    }

    private static void worn(CoverOrder x) {
        Check.regraphed(x, "D5 01 02 13 23 34 43");
        x.keep(0);
        x.delete(0, 2);
        x.insert(0, 2);
        x.see(3, 0, 1);
        x.seed(9);
    }

    private static void nothingChanged() {
        for (int i = 0; i <= 9; i++) {
            int what = i;
            Twin.asked("count(" + what + ")", SlotsBoundsTest::worn, x -> x.count(what));
        }
        for (int i = -1; i <= 6; i++) {
            int place = i;
            Twin.asked("edge(" + place + ")", SlotsBoundsTest::worn, x -> x.edge(place));
        }
        Twin.asked("fault()", SlotsBoundsTest::worn, CoverOrder::fault);
        Twin.asked("keep(0) of what is kept", x -> {
            worn(x);
            x.keep(1);
        }, x -> x.keep(1));
    }
}
