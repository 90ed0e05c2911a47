/** What the tests share: answers compared with what is due, and objects with a graph. */
final class Check {
    private static int wrong = 0;
    private static int seen = 0;

    private Check() {
    }

    static void due(String call, long got, long want) {
        seen++;
        if (got != want) {
            wrong++;
            System.out.println(call + " answered " + got + ", due is " + want);
        }
    }

    static void end(String name) {
        System.out.println(name + ": " + seen + " answers, " + wrong + " not as due");
        if (wrong != 0 || seen == 0) {
            System.exit(1);
        }
    }

    static void write(CoverOrder x, String text) {
        for (int i = 0; i < text.length(); i++) {
            x.write(text.charAt(i));
        }
    }

    /** A new object whose graph is the text without its blanks. */
    static CoverOrder graph(String text) {
        CoverOrder x = new CoverOrder();
        regraph(x, text);
        return x;
    }

    static void regraph(CoverOrder x, String text) {
        String letters = text.replace(" ", "");
        x.wipe();
        write(x, letters);
        due("graph() of " + text, x.graph(), (letters.length() - 2) / 2);
    }

    /** The edges in their row with their stamps, as text: 01:1 12:2 .. */
    static String row(CoverOrder x) {
        StringBuilder row = new StringBuilder();
        for (int i = 0; x.edge(i) >= 0; i++) {
            int pair = x.edge(i);
            row.append(i == 0 ? "" : " ").append(pair / 10).append(pair % 10);
            row.append(':').append(x.stamp(pair / 10, pair % 10));
        }
        return row.toString();
    }

    static void dueRow(String when, CoverOrder x, String want) {
        String got = row(x);
        due("the row " + when + " (" + got + " for " + want + ")", got.equals(want) ? 1 : 0, 1);
    }

    static void dueShowing(String of, CoverOrder x, String want) {
        StringBuilder got = new StringBuilder();
        for (int i = 0; x.showing(i) >= 0; i++) {
            got.append(x.showing(i));
        }
        due("the showing of " + of + " (" + got + " for " + want + ")",
                got.toString().equals(want) ? 1 : 0, 1);
    }

    static void dueFraction(String call, long above, long below, long wantAbove, long wantBelow) {
        due(call + " above", above, wantAbove);
        due(call + " below", below, wantBelow);
    }
}
