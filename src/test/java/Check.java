/** What the tests share: answers compared with what is due, and objects with a graph. */
final class Check {
    /** Eight knots, twenty-four edges: all from 0 to 2, three from 3. */
    static final String FULL = "D8 01020304050607 10121314151617 20212324252627 303132";
    static final String CHAIN = "D8 01 12 23 34 45 56 67";
    static final int LEAST = Integer.MIN_VALUE, MOST = Integer.MAX_VALUE;

    private static final long TWO_MINUTES = 120_000;

    private static int wrong = 0;
    private static int seen = 0;

    static {
        // A call that does not end is wrong, too.
        Thread watch = new Thread(Check::haltLate);
        watch.setDaemon(true);
        watch.start();
    }

    private Check() {
    }

    private static void haltLate() {
        try {
            Thread.sleep(TWO_MINUTES);
        } catch (InterruptedException e) {
            System.out.println("the watch was cut short");
        }
        System.out.println("a call did not end; the last answer was number " + seen);
        System.out.flush();
        Runtime.getRuntime().halt(1);
    }

    static void due(String call, long got, long want) {
        seen++;
        if (got != want) {
            wrong++;
            System.out.println(call + " answered " + got + ", due is " + want);
        }
    }

    /** One sentence of the document, by the test that it has for itself. */
    static void sentence(String words, Runnable test) {
        int wrongBefore = wrong;
        int seenBefore = seen;
        test.run();
        if (seen == seenBefore) {
            wrong++;
            System.out.println("nothing was looked at");
        }
        if (wrong != wrongBefore) {
            System.out.println("    so this does not hold: " + words);
        }
    }

    static void end(String name) {
        System.out.println(name + ": " + seen + " answers, " + wrong + " not as due");
        if (wrong != 0 || seen == 0) {
            System.exit(1);
        }
    }

    static void write(CoverOrder x, String text) {
        for (int i = 0; i < text.length(); i++) {
            x.write(text.charAt(i));
        }
    }

    /** How many edges the graph has that the text without its blanks is made. */
    static int regraphed(CoverOrder x, String text) {
        x.wipe();
        write(x, text.replace(" ", ""));
        return x.graph();
    }

    /** A new object whose graph is the text without its blanks. */
    static CoverOrder graph(String text) {
        CoverOrder x = new CoverOrder();
        regraph(x, text);
        return x;
    }

    static void regraph(CoverOrder x, String text) {
        int edges = (text.replace(" ", "").length() - 2) / 2;
        due("graph() of " + text, regraphed(x, text), edges);
    }

    /** The edges in their row with their stamps, as text: 01:1 12:2 .. */
    static String row(CoverOrder x) {
        StringBuilder row = new StringBuilder();
        int place = 0;
        for (int pair = x.edge(0); pair >= 0; pair = x.edge(place)) {
            row.append(place == 0 ? "" : " ").append(pair / 10).append(pair % 10);
            row.append(':').append(x.stamp(pair / 10, pair % 10));
            place++;
        }
        return row.toString();
    }

    static void dueRow(String when, CoverOrder x, String want) {
        String got = row(x);
        due("the row " + when + " (" + got + " for " + want + ")", got.equals(want) ? 1 : 0, 1);
    }

    static void dueShowing(String of, CoverOrder x, String want) {
        StringBuilder got = new StringBuilder();
        for (int i = 0; x.showing(i) >= 0; i++) {
            got.append(x.showing(i));
        }
        due("the showing of " + of + " (" + got + " for " + want + ")",
                got.toString().equals(want) ? 1 : 0, 1);
    }

    static void dueFraction(String call, long above, long below, long wantAbove, long wantBelow) {
        due(call + " above", above, wantAbove);
        due(call + " below", below, wantBelow);
    }
}
