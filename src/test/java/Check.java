/** Counts the answers of one test that are not due, and tells them. */
final class Check {
    /** How an object comes to be as a test wants it: the same each time. */
    interface Made {
        BellTrees made();
    }

    /** One call on an object. */
    interface Call {
        long on(BellTrees x);
    }

    private int right;
    private int wrong;

    void due(String call, long got, long want) {
        if (got == want) {
            right++;
            return;
        }
        wrong++;
        if (wrong <= 20) {
            System.out.println(call + " answered " + got + ", due is " + want);
        }
    }

    void holds(String what, boolean so) {
        due(what, so ? 1 : 0, 1);
    }

    /** The call has the answer that is due, and the object stands behind it as one that never had the call. */
    void changesNothing(String call, Made made, Call asked, long want) {
        BellTrees x = made.made();
        due(call, asked.on(x), want);
        holds(call + " changes nothing", State.of(x).equals(State.of(made.made())));
    }

    void end() {
        System.out.println(right + " answers as due, " + wrong + " not");
        if (wrong != 0 || right == 0) {
            System.exit(1);
        }
    }

    /** A ROW of bytes with these elements comes on a SHELF. */
    static void bytes(BellTrees x, int shelf, int... elements) {
        x.row(shelf, 0, elements.length);
        for (int i = 0; i < elements.length; i++) {
            x.put(shelf, i, elements[i]);
        }
    }

    /** A text is fed and made THE LAW: what law() answers. */
    static int law(BellTrees x, String text) {
        for (int i = 0; i < text.length(); i++) {
            x.feed(text.charAt(i));
        }
        return x.law();
    }
}
