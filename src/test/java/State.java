/**
 * All that an object's own calls can tell of it, as a text: two objects with the same text stand alike.
 * It asks for at most 400 calls and uses the object up: a law is read, changes are undone, elements are put.
 */
final class State {
    private static final int MOST_CALLS = 400;
    private static final int[] SOME_MINUTES = {0, 7, 23};

    private final BellTrees x;
    private final int trees;
    private final int bodies;
    private final StringBuilder told = new StringBuilder();
    private int calls;

    private State(BellTrees x) {
        this.x = x;
        trees = x.count(0);
        bodies = x.count(4);
    }

    static String of(BellTrees x) {
        State state = new State(x);
        state.tellAll();
        return state.told.toString();
    }

    private void tell(String what, long answer) {
        calls++;
        if (calls > MOST_CALLS) {
            throw new IllegalStateException("an object is used for too many calls");
        }
        told.append(what).append(' ').append(answer).append('\n');
    }

    private void tellAll() {
        for (int what = 0; what < 6; what++) {
            tell("count " + what, x.count(what));
        }
        for (int minute = 0; minute < 24; minute++) {
            tell("wind " + minute, x.of(minute, 4));
        }
        tellForest("at first");
        tellTrace();
        tellShelves();
        tellSounds("at first");
        tellChanges();
        tell("back", x.back());
        tellForest("as the image was");
        tell("law", x.law());
        tellSounds("by what was on the tape");
        for (int n = 0; n < bodies; n++) {
            tell("act of " + n, x.act(n, 3, 5));
        }
        tellRowSorts();
    }

    private void tellForest(String when) {
        for (int t = 0; t < trees; t++) {
            for (int what : new int[] {0, 1, 2, 3, 10, 11}) {
                tell(when + " of tree " + t + " " + what, x.of(t, what));
            }
        }
        for (int minute : SOME_MINUTES) {
            tell(when + " wind " + minute, x.of(minute, 4));
        }
        for (int sort = 0; sort < 4; sort++) {
            tell(when + " height " + sort, x.of(sort, 5));
        }
        tell(when + " snow", x.of(0, 6));
        tell(when + " hut", x.of(0, 7));
        tell(when + " walks", x.of(0, 12));
    }

    private void tellTrace() {
        int body = 0;
        for (int i = 0; i < 24 && body >= 0; i++) {
            body = x.trace(i);
            tell("trace " + i, body);
        }
    }

    private void tellShelves() {
        for (int shelf = 0; shelf < 6; shelf++) {
            tell("taken " + shelf, x.taken(shelf, 0));
            long element = 0;
            for (int i = 0; i < 60 && element != Long.MIN_VALUE; i++) {
                element = x.element(shelf, i);
                tell("element " + shelf + " " + i, element);
            }
        }
    }

    private void tellRowSorts() {
        for (int shelf = 0; shelf < 6; shelf++) {
            tell("put " + shelf, x.put(shelf, 0, 0x123456789abcdefL));
            tell("put in " + shelf, x.element(shelf, 0));
        }
    }

    private void tellSounds(String when) {
        for (int t = 0; t < trees; t++) {
            tell(when + " sound at " + t, x.sound(t % 4, t, SOME_MINUTES[t % 3]));
        }
    }

    private void tellChanges() {
        int left = 0;
        for (int i = 0; i < 41 && left >= 0; i++) {
            left = x.redo();
            tell("redo", left);
        }
        tellForest("all done again");
        left = 0;
        for (int i = 0; i < 41 && left >= 0; i++) {
            left = x.undo();
            tell("undo", left);
        }
        tellForest("all undone");
    }
}
