/** Promises 1 to 5: a new object, write, wipe, fault, graph. */
public final class GraphTest {
    private static final int NONE = CoverOrder.NONE;
    /** Five knots, each with edges to all others: twenty edges. */
    private static final String ALL_OF_FIVE = "D5 01020304 10121314 20212324 30313234 40414243";

    private GraphTest() {
    }

    public static void main(String[] args) {
        newObject();
        write();
        wipe();
        faultOfShortTexts();
        faultOfEdges();
        faultWhereNothingFits();
        graph();
        graphAnew();
        Check.end("GraphTest");
    }

    private static void newObject() {
        CoverOrder x = new CoverOrder();
        int[] counts = {0, 1, 0, 1, 0, 0, 1, 0, 0, 0};
        for (int what = 0; what < counts.length; what++) {
            Check.due("new: count(" + what + ")", x.count(what), counts[what]);
        }
        int[] root = {1, NONE, 0, 0, NONE, 1, 0};
        for (int what = 0; what < root.length; what++) {
            Check.due("new: knot(0, " + what + ")", x.knot(0, what), root[what]);
        }
        Check.due("new: showing(0)", x.showing(0), 0);
        Check.due("new: showing(1)", x.showing(1), NONE);
        Check.due("new: edge(0)", x.edge(0), NONE);
        Check.due("new: fault()", x.fault(), 0);
        Check.due("new: undo()", x.undo(), CoverOrder.STATE);
        Check.due("new: again(0)", x.again(0), CoverOrder.STATE);
        Check.due("new: again(1)", x.again(1), CoverOrder.STATE);
        Check.due("new: seed(1)", x.seed(1), 0);
        Check.due("new: insert(0, 1)", x.insert(0, 1), CoverOrder.UNKNOWN);
        Check.graph("D2 01");
        Check.due("another new: count(1)", new CoverOrder().count(1), 1);
    }

    private static void write() {
        CoverOrder x = new CoverOrder();
        Check.due("write(-1)", x.write(-1), CoverOrder.OUTSIDE);
        Check.due("write(256)", x.write(256), CoverOrder.OUTSIDE);
        Check.due("write(least)", x.write(Integer.MIN_VALUE), CoverOrder.OUTSIDE);
        Check.due("write(most)", x.write(Integer.MAX_VALUE), CoverOrder.OUTSIDE);
        Check.due("count(0) of no letters", x.count(0), 0);
        Check.due("write(0)", x.write(0), 1);
        Check.due("write(255)", x.write(255), 2);
        for (int length = 3; length <= 64; length++) {
            Check.due("write as letter " + length, x.write('D'), length);
        }
        Check.due("write to 64 letters", x.write('D'), CoverOrder.FULL);
        Check.due("write(256) to 64 letters", x.write(256), CoverOrder.OUTSIDE);
        Check.due("count(0)", x.count(0), 64);
        Check.due("wipe() of 64", x.wipe(), 64);
        Check.due("write after wipe", x.write('D'), 1);
    }

    private static void wipe() {
        CoverOrder x = Check.graph("D3 01 12");
        Check.due("wipe()", x.wipe(), 6);
        Check.due("wipe() again", x.wipe(), 0);
        Check.due("count(0) after wipe", x.count(0), 0);
        Check.due("count(2) after wipe", x.count(2), 2);
        Check.due("fault() after wipe", x.fault(), 0);
        Check.write(x, "D2");
        Check.due("fault() of a text behind a wiped one", x.fault(), NONE);
    }

    private static void fault(String text, int want) {
        CoverOrder x = new CoverOrder();
        Check.write(x, text.replace(" ", ""));
        Check.due("fault() of " + text, x.fault(), want);
        Check.due("fault() of " + text + " once more", x.fault(), want);
    }

    private static void faultOfShortTexts() {
        fault("", 0);
        fault("D", 1);
        fault("d", 0);
        fault("E", 0);
        fault("0", 0);
        fault("D0", 1);
        fault("D9", 1);
        fault("D/", 1);
        fault("D:", 1);
        fault("DD", 1);
        for (int n = 1; n <= 8; n++) {
            fault("D" + n, NONE);
        }
        fault("X9", 0);
        fault("D0x", 1);
        fault("D3\u0000", 2);
        fault("D3\u00ff", 2);
        fault("D3-", 2);
    }

    private static void faultOfEdges() {
        fault("D3 0", 3);
        fault("D3 01", NONE);
        fault("D3 01 1", 5);
        fault("D3 01 12 20 02", NONE);
        fault("D3 3", 2);
        fault("D3 9", 2);
        fault("D8 8", 2);
        fault("D8 7", 3);
        fault("D8 08", 3);
        fault("D8 07", NONE);
        fault("D8 70", NONE);
        fault("D3 03", 3);
        fault("D3 0x", 3);
        fault("D3 x", 2);
        fault("D3 00", 3);
        fault("D3 22", 3);
        fault("D3 01 01", 5);
        fault("D3 01 10 01", 7);
        fault("D4 12 21 12 0", 7);
        fault("D4 12 44", 4);
        fault("D4 12 3D", 5);
    }

    private static void faultWhereNothingFits() {
        fault("D1 0", 2);
        fault("D1 00", 2);
        fault("D2 01 0", 4);
        fault("D2 01 1", 5);
        fault("D2 01 10", NONE);
        fault("D2 01 10 1", 6);
        fault("D3 01 02 0", 6);
        fault("D3 01 02 1", 7);
        fault("D4 01 02 03 00", 8);
        fault("D4 10 12 13 31 1", 10);
        fault(ALL_OF_FIVE, NONE);
        for (char first = '0'; first <= '5'; first++) {
            fault(ALL_OF_FIVE + first, 42);
        }
        fault(Check.FULL, NONE);
        fault(Check.FULL.substring(0, Check.FULL.length() - 1), 49);
        for (char first = '0'; first <= '8'; first++) {
            fault(Check.FULL + first, 50);
        }
        fault(Check.FULL + "333435363736", 50);
        fault(Check.FULL + "33343536373641", 50);
    }

    private static void graph() {
        CoverOrder x = new CoverOrder();
        Check.write(x, "D4230102");
        Check.due("graph()", x.graph(), 3);
        Check.dueRow("as told", x, "23:1 01:2 02:3");
        Check.due("count(1)", x.count(1), 4);
        Check.due("count(6)", x.count(6), 4);
        Check.due("count(0): the text stays", x.count(0), 8);
        Check.due("fault(): the text stays", x.fault(), NONE);
        x.delete(2, 3);
        x.insert(3, 1);
        Check.due("graph() from the same text", x.graph(), 3);
        Check.dueRow("as told again", x, "23:1 01:2 02:3");
        Check.due("count(6) anew", x.count(6), 4);
        x.write('1');
        x.write('3');
        Check.due("graph() of a longer text", x.graph(), 4);
        Check.dueRow("of a longer text", x, "23:1 01:2 02:3 13:4");
        Check.due("graph() of D1", Check.regraphed(x, "D1"), 0);
        Check.due("count(1) of D1", x.count(1), 1);
        Check.due("count(6) of D1", x.count(6), 1);
        Check.due("graph() of 24 edges", Check.regraphed(x, Check.FULL), 24);
        Check.due("edge(23)", x.edge(23), 32);
        Check.due("edge(24)", x.edge(24), NONE);
        Check.due("stamp(3, 2)", x.stamp(3, 2), 24);
        Check.due("count(6) of 24 edges", x.count(6), 25);
    }

    private static void graphAnew() {
        CoverOrder x = Check.graph("D3 01 12");
        x.insert(2, 0);
        x.keep(0);
        x.keep(1);
        x.see(1, 0, 1);
        x.seed(77);
        Check.regraph(x, "D2 01");
        Check.due("undo() in a graph anew", x.undo(), CoverOrder.STATE);
        Check.due("count(8) in a graph anew", x.count(8), 0);
        Check.due("again(0) in a graph anew", x.again(0), CoverOrder.STATE);
        Check.due("again(1) in a graph anew", x.again(1), CoverOrder.STATE);
        Check.due("count(9) in a graph anew", x.count(9), 1);
        Check.due("seed in a graph anew", x.seed(0), 77);
        Check.dueRow("anew", x, "01:1");
    }
}
