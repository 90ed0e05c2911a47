/** The use of an object, section 1 of the terms up to FAULT, promises 1 to 5: each boundary. */
public final class GraphBoundsTest {
    private static final int NONE = CoverOrder.NONE;

    private GraphBoundsTest() {
    }

    public static void main(String[] args) {
        Check.sentence("An object is used for at most 512 calls", GraphBoundsTest::lastCall);
        Check.sentence("KNOTS are 0 to n less 1 (n is 1 to 8)", GraphBoundsTest::knots);
        Check.sentence("0 is THE ROOT", GraphBoundsTest::root);
        Check.sentence("EDGES go from one KNOT to another, unlike one", GraphBoundsTest::unlike);
        Check.sentence("each pair once", GraphBoundsTest::once);
        Check.sentence("they are in a row, as they came", GraphBoundsTest::asTheyCame);
        Check.sentence("1 for the first that came, and so on, always 1 more",
                GraphBoundsTest::stamps);
        Check.sentence("THE TEXT is letters (64 at most)", GraphBoundsTest::letters);
        Check.sentence("A GRAPH is a TEXT: D", GraphBoundsTest::firstLetter);
        Check.sentence("a figure n (1 to 8)", GraphBoundsTest::secondLetter);
        Check.sentence("then EDGES, none or more", GraphBoundsTest::noEdges);
        Check.sentence("(24 at most)", GraphBoundsTest::mostEdges);
        Check.sentence("each two figures, from and to", GraphBoundsTest::figures);
        Check.sentence("At first n is 1, there is no EDGE", GraphBoundsTest::atFirst);
        Check.sentence("when THE GRAPH is made anew, its EDGES have STAMPS from 1 on",
                GraphBoundsTest::stampsAnew);
        Check.sentence("whatever came behind it", GraphBoundsTest::whateverBehind);
        Check.sentence("a first figure of a KNOT from which there are EDGES to all others",
                GraphBoundsTest::edgesToAll);
        Check.sentence("or when there are 24", GraphBoundsTest::firstFigureOfTooMany);
        Check.sentence("its length, if it is only not at its end", GraphBoundsTest::notAtItsEnd);
        Check.sentence("NONE: none", GraphBoundsTest::noFault);
        Check.sentence("1: The root alone", GraphBoundsTest::rootAlone);
        Check.sentence("2: A letter (0 to 255) comes behind THE TEXT: how long it is",
                GraphBoundsTest::write);
        Check.sentence("3: THE TEXT is empty: how long it was", GraphBoundsTest::wipe);
        Check.sentence("5: how many EDGES", GraphBoundsTest::howMany);
        Check.sentence("5: THE TEXT (that stays as it is)", GraphBoundsTest::textStays);
        Check.sentence("5: THE ROW of ACTS is empty", GraphBoundsTest::actsGone);
        Check.sentence("5: what was kept is gone", GraphBoundsTest::keptGone);
        Check.sentence("5: SEEN, THE SEED stay", GraphBoundsTest::seenAndSeedStay);
        Check.end("GraphBoundsTest");
    }

    private static void fault(String text, int want) {
        CoverOrder x = new CoverOrder();
        Check.write(x, text.replace(" ", ""));
        Check.due("fault() of " + text, x.fault(), want);
    }

    /** Two letters, graph, 24 edges, 240 times two acts, and five more. */
    private static void lastCall() {
        CoverOrder x = new CoverOrder();
        Check.write(x, "D8");
        x.graph();
        for (int i = 0; i < 24; i++) {
            Check.due("insert " + i, x.insert(i / 4, i % 4 == i / 4 ? 7 : i % 4), i + 1);
        }
        int stamp = 24;
        for (int time = 1; time <= 240; time++) {
            Check.due("delete(0, 3), time " + time, x.delete(0, 3), time == 1 ? 4 : stamp);
            stamp++;
            Check.due("insert(0, 3), time " + time, x.insert(0, 3), stamp);
        }
        Check.due("edge(23) late", x.edge(23), 3);
        Check.due("stamp(0, 3) late", x.stamp(0, 3), 264);
        Check.due("undo() late", x.undo(), 13);
        Check.due("undo() once more", x.undo(), 12);
        Check.due("stamp(0, 3), the last call", x.stamp(0, 3), 263);
    }

    /** For each call that takes KNOTS the last one is there, and the next is not. */
    private static void knots() {
        for (int n = 1; n <= 8; n++) {
            CoverOrder x = Check.graph("D" + n);
            String of = " of " + n + " knots";
            int last = n - 1;
            Check.due("count(1)" + of, x.count(1), n);
            Check.due("knot of the last" + of, x.knot(last, 0), n == 1 ? 1 : 0);
            Check.due("knot(n, 0)" + of, x.knot(n, 0), CoverOrder.UNKNOWN);
            Check.due("knot(-1, 0)" + of, x.knot(-1, 0), CoverOrder.UNKNOWN);
            Check.due("insert of the last" + of, x.insert(last, last), CoverOrder.OUTSIDE);
            Check.due("insert(n, 0)" + of, x.insert(n, 0), CoverOrder.UNKNOWN);
            Check.due("insert(0, n)" + of, x.insert(0, n), CoverOrder.UNKNOWN);
            Check.due("delete of the last" + of, x.delete(last, last), CoverOrder.STATE);
            Check.due("delete(n, 0)" + of, x.delete(n, 0), CoverOrder.UNKNOWN);
            Check.due("delete(0, n)" + of, x.delete(0, n), CoverOrder.UNKNOWN);
            Check.due("stamp of the last" + of, x.stamp(last, last), NONE);
            Check.due("stamp(n, 0)" + of, x.stamp(n, 0), CoverOrder.UNKNOWN);
            Check.due("stamp(0, n)" + of, x.stamp(0, n), CoverOrder.UNKNOWN);
            Check.due("nearest of the last" + of, x.nearest(last, last),
                    n == 1 ? 0 : CoverOrder.STATE);
            Check.due("nearest(n, 0)" + of, x.nearest(n, 0), CoverOrder.UNKNOWN);
            Check.due("nearest(0, n)" + of, x.nearest(0, n), CoverOrder.UNKNOWN);
            Check.due("would of the last" + of, x.would(last, last), CoverOrder.OUTSIDE);
            Check.due("would(n, 0)" + of, x.would(n, 0), CoverOrder.UNKNOWN);
            Check.due("would(0, n)" + of, x.would(0, n), CoverOrder.UNKNOWN);
            Check.due("share of the last" + of, x.share(last, last, true), CoverOrder.STATE);
            Check.due("share(n, 0)" + of, x.share(n, 0, true), CoverOrder.UNKNOWN);
            Check.due("share(0, n)" + of, x.share(0, n, true), CoverOrder.UNKNOWN);
            Check.due("spared of the last" + of, x.spared(last, 1, 1, true), 1);
            Check.due("spared(n, 1, 1)" + of, x.spared(n, 1, 1, true), CoverOrder.UNKNOWN);
        }
    }

    private static void root() {
        for (int n = 1; n <= 8; n++) {
            CoverOrder x = Check.graph("D" + n);
            for (int knot = 0; knot < n; knot++) {
                Check.due("knot(" + knot + ", 0) of " + n, x.knot(knot, 0), knot == 0 ? 1 : 0);
                Check.due("knot(" + knot + ", 2) of " + n, x.knot(knot, 2), knot == 0 ? 0 : NONE);
            }
        }
        Check.due("the root where only an edge to it is", Check.graph("D2 10").knot(0, 2), 0);
        Check.due("1 where only an edge from it is", Check.graph("D2 10").knot(1, 0), 0);
    }

    private static void unlike() {
        for (int n = 2; n <= 8; n++) {
            CoverOrder x = Check.graph("D" + n);
            for (int knot = 0; knot < n; knot++) {
                fault("D" + n + " " + knot + knot, 3);
                Check.due("insert(" + knot + ", " + knot + ") of " + n, x.insert(knot, knot),
                        CoverOrder.OUTSIDE);
            }
        }
    }

    private static void once() {
        fault("D8 07 07", 5);
        fault("D8 07 70", NONE);
        fault("D8 07 70 76 67 70", 11);
        fault("D8 76 01 02 03 76", 11);
        CoverOrder x = Check.graph("D8 07");
        Check.due("insert(0, 7) that is there", x.insert(0, 7), CoverOrder.STATE);
        Check.due("insert(7, 0), the pair turned round", x.insert(7, 0), 2);
        Check.due("insert(7, 0) that has come", x.insert(7, 0), CoverOrder.STATE);
        Check.due("delete(0, 7)", x.delete(0, 7), 1);
        Check.due("insert(0, 7) that has gone", x.insert(0, 7), 3);
    }

    private static void asTheyCame() {
        CoverOrder x = Check.graph("D8 76 10 01");
        x.insert(0, 7);
        x.insert(0, 2);
        Check.dueRow("as they came", x, "76:1 10:2 01:3 07:4 02:5");
        x.delete(1, 0);
        x.insert(1, 0);
        Check.dueRow("with 10 come anew", x, "76:1 01:3 07:4 02:5 10:6");
    }

    private static void stamps() {
        CoverOrder x = Check.graph("D8");
        int stamp = 0;
        for (int from = 0; from < 3; from++) {
            for (int to = 7; to >= 0; to--) {
                if (from != to) {
                    stamp++;
                    Check.due("insert(" + from + ", " + to + ")", x.insert(from, to), stamp);
                    Check.due("count(6)", x.count(6), stamp + 1);
                }
            }
        }
        stamp = 0;
        for (int from = 0; from < 3; from++) {
            for (int to = 7; to >= 0; to--) {
                if (from != to) {
                    stamp++;
                    Check.due("stamp(" + from + ", " + to + ")", x.stamp(from, to), stamp);
                }
            }
        }
    }

    private static void letters() {
        CoverOrder x = new CoverOrder();
        for (int length = 1; length <= 64; length++) {
            Check.due("write the letter " + length, x.write('0' + length % 3), length);
            Check.due("count(0)", x.count(0), length);
        }
        Check.due("write the letter 65", x.write('0'), CoverOrder.FULL);
        Check.due("count(0) of 64", x.count(0), 64);
    }

    private static void firstLetter() {
        for (int letter = 0; letter <= 255; letter++) {
            CoverOrder x = new CoverOrder();
            x.write(letter);
            Check.due("fault() of the letter " + letter, x.fault(), letter == 'D' ? 1 : 0);
        }
    }

    private static void secondLetter() {
        for (int letter = 0; letter <= 255; letter++) {
            CoverOrder x = new CoverOrder();
            x.write('D');
            x.write(letter);
            boolean fits = letter >= '1' && letter <= '8';
            Check.due("fault() of D and " + letter, x.fault(), fits ? NONE : 1);
            Check.due("graph() of D and " + letter, x.graph(), fits ? 0 : CoverOrder.STATE);
            Check.due("count(1)", x.count(1), fits ? letter - '0' : 1);
        }
    }

    private static void noEdges() {
        for (int n = 1; n <= 8; n++) {
            fault("D" + n, NONE);
            CoverOrder x = Check.graph("D" + n);
            Check.due("count(2) of no edges", x.count(2), 0);
            Check.due("edge(0) of no edges", x.edge(0), NONE);
        }
        fault("D2 01", NONE);
        fault("D2 01 10", NONE);
    }

    private static void mostEdges() {
        String less = Check.FULL.substring(0, Check.FULL.length() - 2);
        fault(less, NONE);
        fault(Check.FULL, NONE);
        fault(Check.FULL + "34", 50);
        Check.due("graph() of 23", Check.regraphed(new CoverOrder(), less), 23);
        Check.due("graph() of 24", Check.regraphed(new CoverOrder(), Check.FULL), 24);
        Check.due("graph() of 25", Check.regraphed(new CoverOrder(), Check.FULL + "34"),
                CoverOrder.STATE);
    }

    private static void figures() {
        for (int letter = 0; letter <= 255; letter++) {
            CoverOrder x = new CoverOrder();
            Check.write(x, "D3");
            x.write(letter);
            boolean knot = letter >= '0' && letter <= '2';
            Check.due("fault() of D3 and " + letter, x.fault(), knot ? 3 : 2);
            x.wipe();
            Check.write(x, "D31");
            x.write(letter);
            Check.due("fault() of D31 and " + letter, x.fault(), knot && letter != '1' ? NONE : 3);
        }
        for (int n = 2; n <= 8; n++) {
            fault("D" + n + " " + (n - 1), 3);
            fault("D" + n + " " + n, 2);
            fault("D" + n + " 0" + (n - 1), NONE);
            fault("D" + n + " 0" + n, 3);
        }
    }

    private static void atFirst() {
        CoverOrder x = new CoverOrder();
        Check.due("count(1)", x.count(1), 1);
        Check.due("count(2)", x.count(2), 0);
        Check.due("edge(0)", x.edge(0), NONE);
        Check.due("knot(0, 0)", x.knot(0, 0), 1);
        Check.due("knot(1, 0)", x.knot(1, 0), CoverOrder.UNKNOWN);
    }

    private static void stampsAnew() {
        CoverOrder x = Check.graph("D4 01 12 23");
        x.insert(3, 0);
        x.delete(0, 1);
        Check.due("graph() anew", x.graph(), 3);
        Check.dueRow("anew", x, "01:1 12:2 23:3");
        Check.due("count(6) anew", x.count(6), 4);
        Check.regraph(x, "D4");
        Check.due("count(6) of no edges", x.count(6), 1);
        Check.due("insert(3, 2), the first", x.insert(3, 2), 1);
        Check.regraph(x, Check.FULL);
        Check.due("stamp of the first", x.stamp(0, 1), 1);
        Check.due("stamp of the last", x.stamp(3, 2), 24);
        Check.due("count(6) of 24", x.count(6), 25);
    }

    /** Letter by letter up to 64: the place of the first letter stays. */
    private static void whateverBehind() {
        String[] texts = {"x", "1", "D0", "D9", "DD", "D33", "D300", "D303", "D30101", "D201100",
            "D10", "D40102030", Check.FULL.replace(" ", "") + "3"};
        for (String text : texts) {
            for (String letters : new String[] {"D", "0", "1", "2101", "D3011220"}) {
                CoverOrder x = new CoverOrder();
                Check.write(x, text);
                for (int i = 0; x.count(0) < 64; i++) {
                    Check.due("fault() of " + text + " and " + i + " letters of " + letters,
                            x.fault(), text.length() - 1);
                    x.write(letters.charAt(i % letters.length()));
                }
                Check.due("fault() of " + text + " and all letters of " + letters, x.fault(),
                        text.length() - 1);
            }
        }
    }

    private static void edgesToAll() {
        for (int n = 1; n <= 8; n++) {
            for (int from = 0; from < n; from++) {
                StringBuilder text = new StringBuilder("D").append(n);
                for (int to = 0; to < n; to++) {
                    if (to != from) {
                        fault(text.toString() + from, text.length() + 1);
                        text.append(from).append(to);
                    }
                }
                fault(text.toString(), NONE);
                fault(text.toString() + from, text.length());
                fault(text.toString() + from + (from + 1) % n, text.length());
                int other = (from + 1) % n;
                fault(text.toString() + other, n == 1 ? text.length() : text.length() + 1);
            }
        }
    }

    /** 3 has edges to three others, 4 to none. */
    private static void firstFigureOfTooMany() {
        String less = Check.FULL.substring(0, Check.FULL.length() - 2);
        fault(less + "3", 49);
        fault(less + "4", 49);
        fault(less + "0", 48);
        for (int knot = 0; knot < 8; knot++) {
            fault(Check.FULL + knot, 50);
        }
        fault(Check.FULL + "x", 50);
    }

    private static void notAtItsEnd() {
        fault("", 0);
        fault("D", 1);
        fault("D8 7", 3);
        fault("D8 76 6", 5);
        fault(Check.FULL.substring(0, Check.FULL.length() - 1), 49);
    }

    private static void noFault() {
        fault("D1", NONE);
        fault("D8", NONE);
        fault("D2 10", NONE);
        fault(Check.CHAIN, NONE);
        fault("D5 01020304 10121314 20212324 30313234 40414243", NONE);
        fault(Check.FULL, NONE);
    }

    private static void rootAlone() {
        CoverOrder x = new CoverOrder();
        int[] counts = {0, 1, 0, 1, 0, 0, 1, 0, 0, 0};
        for (int what = 0; what < counts.length; what++) {
            Check.due("count(" + what + ")", x.count(what), counts[what]);
        }
        int[] knot = {1, NONE, 0, 0, NONE, 1, 0};
        for (int what = 0; what < knot.length; what++) {
            Check.due("knot(0, " + what + ")", x.knot(0, what), knot[what]);
        }
        Check.due("nearest(0, 0)", x.nearest(0, 0), 0);
        Check.dueShowing("the root alone", x, "0");
        Check.due("look(0)", x.look(0), NONE);
        Check.due("missing(0)", x.missing(0), 0);
        Check.due("seed(0)", x.seed(0), 0);
    }

    private static void write() {
        for (int letter : new int[] {0, 1, 127, 128, 254, 255}) {
            CoverOrder x = new CoverOrder();
            Check.due("write(" + letter + "), the first", x.write(letter), 1);
            Check.due("write(" + letter + "), the second", x.write(letter), 2);
        }
    }

    private static void wipe() {
        CoverOrder x = new CoverOrder();
        Check.due("wipe() of none", x.wipe(), 0);
        Check.due("wipe() of none again", x.wipe(), 0);
        x.write('D');
        Check.due("wipe() of one", x.wipe(), 1);
        for (int i = 0; i < 64; i++) {
            x.write(255);
        }
        Check.due("wipe() of 64", x.wipe(), 64);
        Check.due("count(0)", x.count(0), 0);
        Check.due("fault()", x.fault(), 0);
        Check.due("write behind nothing", x.write('D'), 1);
        x.write('1');
        Check.due("fault() of what came after", x.fault(), NONE);
        Twin.asked("wipe() and the same letters", GraphBoundsTest::worn, y -> {
            y.wipe();
            Check.write(y, "D401231");
        });
    }

    private static void worn(CoverOrder x) {
        Check.regraphed(x, "D4 01 23");
        x.insert(1, 2);
        x.keep(1);
        x.delete(2, 3);
        x.see(2, 1, 1);
        x.seed(4);
        x.write('1');
    }

    private static void howMany() {
        CoverOrder x = new CoverOrder();
        Check.due("graph() of none", Check.regraphed(x, "D8"), 0);
        Check.due("graph() of one", Check.regraphed(x, "D8 70"), 1);
        Check.due("graph() of 24", Check.regraphed(x, Check.FULL), 24);
        Check.due("graph() of none again", Check.regraphed(x, "D1"), 0);
        Check.due("count(2)", x.count(2), 0);
    }

    private static void textStays() {
        CoverOrder x = Check.graph("D3 01");
        Check.due("count(0) after graph", x.count(0), 4);
        Check.due("fault() after graph", x.fault(), NONE);
        Check.due("graph() again", x.graph(), 1);
        Check.due("write behind it", x.write('1'), 5);
        Check.due("graph() of what is not at its end", x.graph(), CoverOrder.STATE);
        Check.due("count(0) after a refused graph", x.count(0), 5);
        Check.due("write behind that", x.write('2'), 6);
        Check.due("graph() of both", x.graph(), 2);
    }

    private static void actsGone() {
        CoverOrder x = Check.graph("D3 01");
        for (int i = 0; i < 7; i++) {
            x.insert(1, 2);
            x.delete(1, 2);
        }
        Check.due("count(8) ahead of graph", x.count(8), 14);
        Check.due("graph()", x.graph(), 1);
        Check.due("count(8)", x.count(8), 0);
        Check.due("undo()", x.undo(), CoverOrder.STATE);
        x.insert(1, 2);
        Check.due("undo() of one that came after", x.undo(), 0);
        Check.dueRow("after that", x, "01:1");
        x.delete(0, 1);
        Check.due("undo() of one that went after", x.undo(), 0);
        Check.dueRow("after that, too", x, "01:1");
    }

    private static void keptGone() {
        CoverOrder x = Check.graph("D3 01");
        x.keep(0);
        x.keep(1);
        Check.due("graph()", x.graph(), 1);
        Check.due("again(0)", x.again(0), CoverOrder.STATE);
        Check.due("again(1)", x.again(1), CoverOrder.STATE);
        Check.due("keep(1) in the new graph", x.keep(1), 1);
        Check.due("again(0) still", x.again(0), CoverOrder.STATE);
        Check.due("again(1) as kept in the new graph", x.again(1), 1);
    }

    private static void seenAndSeedStay() {
        CoverOrder x = Check.graph("D3 01");
        x.see(2, 1, 1);
        x.see(1, 0, 1);
        x.seed(Long.MIN_VALUE);
        Check.regraph(x, "D3 01 10");
        Check.due("count(9)", x.count(9), 2);
        Check.due("missing(1)", x.missing(1), 12);
        Check.due("seed(0)", x.seed(0), Long.MIN_VALUE);
    }
}
