import java.util.function.Consumer;
import java.util.function.ToIntFunction;

/**
 * Two objects on which the same was done, and on one of them a call more, that is to change
 * nothing: all that can be told of both afterwards is compared.
 */
final class Twin {
    private Twin() {
    }

    /** The call is refused so, and what is refused changes nothing. */
    static void refused(String call, Consumer<CoverOrder> before, ToIntFunction<CoverOrder> refused,
            int want) {
        CoverOrder x = made(before);
        Check.due(call, refused.applyAsInt(x), want);
        dueAsIfNeverCalled(call + " refused", x, before);
    }

    /** The call tells something and changes nothing. */
    static void asked(String call, Consumer<CoverOrder> before, Consumer<CoverOrder> question) {
        CoverOrder x = made(before);
        question.accept(x);
        dueAsIfNeverCalled(call, x, before);
    }

    private static CoverOrder made(Consumer<CoverOrder> before) {
        CoverOrder x = new CoverOrder();
        before.accept(x);
        return x;
    }

    private static void dueAsIfNeverCalled(String call, CoverOrder x, Consumer<CoverOrder> before) {
        String got = told(x);
        String want = told(made(before));
        if (!got.equals(want)) {
            System.out.println(" with the call: " + got + "\n without it:   " + want);
        }
        Check.due(call + " changes nothing", got.equals(want) ? 1 : 0, 1);
    }

    /** All that an object tells, its acts undone and its slots gone on from: some 330 calls. */
    private static String told(CoverOrder x) {
        StringBuilder told = new StringBuilder("fault ").append(x.fault()).append(", counts");
        for (int what = 0; what <= 9; what++) {
            told.append(' ').append(x.count(what));
        }
        told.append(", lids, orders");
        for (int knot = 0; knot < x.count(1); knot++) {
            told.append(' ').append(x.knot(knot, 1)).append('/').append(x.knot(knot, 3));
        }
        told.append(", showing");
        for (int i = 0; i <= 8; i++) {
            told.append(' ').append(x.showing(i));
        }
        told.append(", missing ").append(x.missing(0)).append(' ').append(x.missing(1));
        row(told, x);
        for (int left = x.undo(); left >= 0; left = x.undo()) {
            told.append(", undone to ").append(left).append(": ").append(x.count(2));
            told.append(' ').append(x.count(6)).append(' ').append(x.edge(0));
        }
        row(told, x);
        for (int slot = 0; slot < 2; slot++) {
            told.append(", again ").append(x.again(slot)).append(' ').append(x.count(6));
            row(told, x);
        }
        told.append(", seed ").append(x.seed(0)).append(", graph ").append(x.graph());
        told.append(' ').append(x.count(1));
        row(told, x);
        return told.append(", seen ").append(x.unsee()).toString();
    }

    private static void row(StringBuilder told, CoverOrder x) {
        told.append(", row ").append(Check.row(x));
    }
}
