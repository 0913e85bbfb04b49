/** Of each promise: what is refused, by which answer, of several the one named first, and that it changes nothing. */
public final class RefusalsTest {
    private static final int BAD = -1, NOT = -2, FULL = -3, STATE = -5;
    private static final int[] FAR_OUT = {Integer.MAX_VALUE, Integer.MIN_VALUE};
    private static final Check check = new Check();
    private static Check.Made made;

    public static void main(String[] args) {
        made = RefusalsTest::settled;
        theSettledOneStands();
        treesAndPaths();
        mending();
        tapeAndSound();
        booksRefused();
        walksRefused();
        leastRefused();
        drawnAndYears();
        actsRefused();
        shelvesRefused();
        shiftsRefused();
        namedFirst();
        questionsChangeNothing();
        fullOnes();
        nothingYet();
        check.end();
    }

    private static void refused(String call, Check.Call asked, long want) {
        check.changesNothing(call, made, asked, want);
    }

    /**
     * SHELF 0 holds a WALK, 1 a BOOK that is a WALK too, 2 a ROW of bytes that is no WALK, 3 shorts, 4 a BODY, 5 nothing.
     * There is an image, seven changes are done and two undone, two bytes are on the tape, a trace is kept.
     */
    private static BellTrees settled() {
        BellTrees x = new BellTrees();
        int[] trees = {153, 253, 384, 191, 505};
        for (int plh : trees) {
            x.tree(plh);
        }
        int[] paths = {1, 12, 23, 4, 43};
        for (int ab : paths) {
            x.path(ab);
        }
        Check.law(x, "l>d&w<5|p=3");
        Check.bytes(x, 0, 0, 1, 2, 2);
        Check.bytes(x, 1, 1, 2, 3);
        Check.bytes(x, 2, 0, 2);
        x.row(3, 1, 2);
        x.put(3, 0, -7);
        for (int kind = 0; kind < 8; kind++) {
            x.body(kind);
        }
        x.keep(4, 5);
        x.walk(0, 0);
        x.image();
        x.walk(0, 0);
        int[][] changes = {{0, 0, 2}, {1, 1, 6}, {2, 2, 5}, {3, 3, 0}, {7, 4, 9}, {2, 5, 8}, {0, 6, 1}, {0, 7, 1}, {0, 0, 4}};
        for (int[] change : changes) {
            x.mend(change[0], change[1], change[2]);
        }
        x.undo();
        x.undo();
        x.act(5, 3, 5);
        x.feed('l');
        x.feed('>');
        return x;
    }

    /** The state is told fully enough: each change is seen in it. */
    private static void theSettledOneStands() {
        Check.Call[] changes = {x -> x.tree(0), x -> x.path(2), x -> x.mend(0, 0, 9), x -> x.mend(13, 4, 0), x -> x.feed(0),
            x -> x.law(), x -> x.years(1, 30), x -> x.walk(0, 0), x -> x.image(), x -> x.back(), x -> x.undo(), x -> x.redo(),
            x -> x.body(0), x -> x.act(0, 0, 0), x -> x.act(9, 0, 0), x -> x.keep(4, 4), x -> x.keep(0, -1), x -> x.row(0, 0, 4),
            x -> x.row(3, 2, 2), x -> x.put(0, 3, 3), x -> x.shift(0, 0, 1, 0, 1), x -> x.trees(1, 0, 1)};
        String before = State.of(settled());
        check.holds("the same each time", before.equals(State.of(settled())));
        for (int i = 0; i < changes.length; i++) {
            BellTrees x = settled();
            changes[i].on(x);
            check.holds("change " + i + " is seen", !before.equals(State.of(x)));
        }
    }

    private static void treesAndPaths() {
        for (int plh : new int[] {-1, 1000, -999, Integer.MAX_VALUE, Integer.MIN_VALUE}) {
            refused("tree " + plh, x -> x.tree(plh), BAD);
        }
        for (int shelf : new int[] {-1, 6, Integer.MAX_VALUE, Integer.MIN_VALUE}) {
            refused("trees shelf " + shelf, x -> x.trees(shelf, 0, 1), BAD);
        }
        for (int n : new int[] {-1, 0, 9, Integer.MAX_VALUE, Integer.MIN_VALUE}) {
            refused("trees n " + n, x -> x.trees(1, 0, n), BAD);
            refused("trees n " + n + " of shorts", x -> x.trees(3, 0, n), BAD);
            refused("trees n " + n + " of nothing", x -> x.trees(5, 0, n), BAD);
        }
        refused("trees of shorts", x -> x.trees(3, 0, 1), -12);
        refused("trees of a body", x -> x.trees(4, 0, 1), -12);
        refused("trees of nothing", x -> x.trees(5, 0, 1), 0);
        refused("trees of two bytes", x -> x.trees(2, 0, 1), 0);
        for (int i : new int[] {-1, 1, 3, Integer.MAX_VALUE, Integer.MAX_VALUE - 2, Integer.MIN_VALUE}) {
            refused("trees i " + i, x -> x.trees(1, i, 8), 0);
        }
        for (int ab : new int[] {11, 0, 44, 1, 10, 34, 5, 50, 55, -1, -12, 100, 110, 102, Integer.MAX_VALUE, Integer.MIN_VALUE}) {
            refused("path " + ab, x -> x.path(ab), BAD);
        }
    }

    private static void mending() {
        int[] most = {9, 9, 9, 1, 9, 9, 9, 7};
        int[] beyond = {5, 5, 5, 5, 24, 4, 1, 1};
        for (int what = 0; what < 8; what++) {
            int of = what;
            for (int v : new int[] {-1, most[what] + 1, Integer.MAX_VALUE, Integer.MIN_VALUE}) {
                refused("mend " + what + " to " + v, x -> x.mend(0, of, v), BAD);
                refused("mend the last " + what + " to " + v, x -> x.mend(beyond[of] - 1, of, v), BAD);
            }
            for (int number : new int[] {-1, beyond[what], Integer.MAX_VALUE, Integer.MIN_VALUE}) {
                refused("mend " + what + " of " + number, x -> x.mend(number, of, 1), BAD);
                refused("of " + number + " " + what, x -> x.of(number, of), BAD);
            }
        }
        for (int what : new int[] {-1, 8, 9, 10, 11, 12, 13, Integer.MAX_VALUE, Integer.MIN_VALUE}) {
            refused("mend what " + what, x -> x.mend(0, what, 1), BAD);
        }
        for (int what : new int[] {-1, 8, 9, 13, Integer.MAX_VALUE, Integer.MIN_VALUE}) {
            refused("of what " + what, x -> x.of(0, what), BAD);
        }
        for (int number : new int[] {-1, 5, 8, Integer.MAX_VALUE, Integer.MIN_VALUE}) {
            refused("far of " + number, x -> x.of(number, 10), BAD);
            refused("heard of " + number, x -> x.of(number, 11), BAD);
            refused("walks of " + number, x -> x.of(number, 12), BAD);
        }
        refused("walks of 1", x -> x.of(1, 12), BAD);
        refused("what stands already", x -> x.mend(0, 0, 2), 2);
    }

    private static void tapeAndSound() {
        for (int letter : new int[] {-1, 256, 256 + 'l', -256 + 'l', Integer.MAX_VALUE, Integer.MIN_VALUE}) {
            refused("feed " + letter, x -> x.feed(letter), BAD);
        }
        for (int out : new int[] {-1, 5, 8, 24, Integer.MAX_VALUE, Integer.MIN_VALUE}) {
            refused("sound of sort " + out, x -> x.sound(out, 0, 0), BellTrees.VOID);
            refused("sound at " + out, x -> x.sound(0, out, 0), BellTrees.VOID);
        }
        refused("sound of sort 4", x -> x.sound(4, 0, 0), BellTrees.VOID);
        for (int minute : new int[] {-1, 24, Integer.MAX_VALUE, Integer.MIN_VALUE}) {
            refused("sound in " + minute, x -> x.sound(0, 0, minute), BellTrees.VOID);
        }
    }

    private static void booksRefused() {
        for (int shelf : new int[] {-1, 6, Integer.MAX_VALUE, Integer.MIN_VALUE}) {
            refused("fits shelf " + shelf, x -> x.fits(shelf, 99), BAD);
            refused("fits shelf " + shelf, x -> x.fits(shelf, 0), BAD);
            refused("canBe shelf " + shelf, x -> x.canBe(shelf, 0), BAD);
            refused("twoAtOnce shelf " + shelf, x -> x.twoAtOnce(shelf, 0, 0), BAD);
        }
        for (int sm : new int[] {3, 23, 24, 98, 103, 198, 303, 398, 400, 499, -1, -2, -99, -100, Integer.MAX_VALUE, Integer.MIN_VALUE}) {
            refused("fits sm " + sm, x -> x.fits(1, sm), BAD);
            refused("canBe sm " + sm, x -> x.canBe(1, sm), BAD);
        }
        for (int sm : new int[] {99, 199, 299, 399}) {
            refused("canBe sm " + sm, x -> x.canBe(1, sm), BAD);
        }
        for (int sm : new int[] {99, 0, 23, 399, 323}) {
            refused("fits of nothing " + sm, x -> x.fits(5, sm), -11);
            refused("fits of shorts " + sm, x -> x.fits(3, sm), -12);
            refused("fits of a body " + sm, x -> x.fits(4, sm), -12);
        }
        for (int sm : new int[] {0, 23, 323}) {
            refused("canBe of nothing " + sm, x -> x.canBe(5, sm), -11);
            refused("canBe of shorts " + sm, x -> x.canBe(3, sm), -12);
            refused("canBe of a body " + sm, x -> x.canBe(4, sm), -12);
        }
        for (int kk : new int[] {-1, 4, 9, 14, 40, 34, 43, 100, 400, Integer.MAX_VALUE, Integer.MIN_VALUE}) {
            refused("twoAtOnce kk " + kk, x -> x.twoAtOnce(1, kk, 0), BAD);
            refused("twoAtOnce of nothing, kk " + kk, x -> x.twoAtOnce(5, kk, 1), BAD);
            refused("apart kk " + kk, x -> x.apart(kk, 1), BAD);
            refused("apart of nothing, kk " + kk, x -> x.apart(kk, 55), BAD);
        }
        for (int what : new int[] {-1, 2, Integer.MAX_VALUE, Integer.MIN_VALUE}) {
            refused("twoAtOnce what " + what, x -> x.twoAtOnce(1, 0, what), BAD);
            refused("twoAtOnce of shorts, what " + what, x -> x.twoAtOnce(3, 0, what), BAD);
            refused("tuned what " + what, x -> x.tuned(what), BAD);
        }
        for (int what = 0; what < 2; what++) {
            int of = what;
            refused("twoAtOnce of nothing", x -> x.twoAtOnce(5, 0, of), -11);
            refused("twoAtOnce of shorts", x -> x.twoAtOnce(3, 0, of), -12);
            refused("twoAtOnce of a body", x -> x.twoAtOnce(4, 0, of), -12);
        }
        refused("none fits", x -> x.fits(2, 1), NOT);
        refused("none fits", x -> x.canBe(2, 1), NOT);
        refused("none fits, a minute behind the book", x -> x.fits(2, 2), BAD);
        refused("none fits, a minute behind the book", x -> x.canBe(2, 2), BAD);
        refused("none such", x -> x.twoAtOnce(1, 0, 1), NOT);
    }

    private static void walksRefused() {
        for (int sort : new int[] {-1, 4, Integer.MAX_VALUE, Integer.MIN_VALUE}) {
            refused("gone sort " + sort, x -> x.gone(sort, 1), BAD);
            refused("judge sort " + sort, x -> x.judge(sort, 1), BAD);
            refused("walk sort " + sort, x -> x.walk(sort, 0), BAD);
            refused("enough sort " + sort, x -> x.enough(sort, 2), BAD);
            refused("gone of nothing, sort " + sort, x -> x.gone(sort, 55), BAD);
            refused("judge of nothing, sort " + sort, x -> x.judge(sort, 55), BAD);
            refused("walk of nothing, sort " + sort, x -> x.walk(sort, 5), BAD);
            refused("enough of no walk, sort " + sort, x -> x.enough(sort, 3), BAD);
        }
        for (int pair : new int[] {-1, 6, 9, 16, 60, 61, 66, 100, 600, Integer.MAX_VALUE, Integer.MIN_VALUE}) {
            refused("gone wb " + pair, x -> x.gone(0, pair), BAD);
            refused("judge wb " + pair, x -> x.judge(0, pair), BAD);
            refused("apart ww " + pair, x -> x.apart(0, pair), BAD);
        }
        for (int shelf : new int[] {-1, 6, Integer.MAX_VALUE, Integer.MIN_VALUE}) {
            refused("walk shelf " + shelf, x -> x.walk(0, shelf), BAD);
        }
        for (int n : new int[] {-1, 0, 5, Integer.MAX_VALUE, Integer.MIN_VALUE}) {
            refused("enough n " + n, x -> x.enough(0, n), BAD);
        }
        refused("walk of nothing", x -> x.walk(0, 5), -11);
        refused("walk of shorts", x -> x.walk(0, 3), -12);
        refused("walk of a body", x -> x.walk(0, 4), -12);
        refused("walk of none", x -> x.walk(0, 2), STATE);
        refused("enough with no walk", x -> x.enough(0, 3), STATE);
        refused("enough with shorts, ahead of no walk", x -> x.enough(0, 4), -12);
        int[][] pairs = {{0, 5, -11}, {5, 0, -11}, {5, 5, -11}, {3, 5, -11}, {5, 3, -11}, {4, 5, -11}, {5, 4, -11}, {2, 5, -11},
            {0, 3, -12}, {3, 0, -12}, {0, 4, -12}, {4, 0, -12}, {3, 4, -12}, {2, 3, -12}, {2, 4, -12}, {2, 0, STATE}, {2, 2, STATE}};
        for (int[] pair : pairs) {
            int both = 10 * pair[0] + pair[1];
            refused("gone " + both, x -> x.gone(0, both), pair[2]);
            refused("judge " + both, x -> x.judge(0, both), pair[2]);
            refused("apart " + both, x -> x.apart(0, both), pair[2]);
        }
        refused("the second is no walk", x -> x.apart(0, 2), STATE);
        refused("the second is no walk, the first nothing", x -> x.apart(0, 52), -11);
        refused("the second is no walk, the first shorts", x -> x.apart(0, 32), -12);
        refused("a book need be no walk", x -> x.gone(0, 2), NOT);
        refused("a book need be no walk", x -> x.judge(0, 2), 0);
    }

    private static void leastRefused() {
        for (int sft : new int[] {-1, -100, 5, 50, 8, 80, 55, 400, 404, 350, 305, Integer.MAX_VALUE, Integer.MIN_VALUE}) {
            refused("least sft " + sft, x -> x.least(sft, 5, -1), BAD);
        }
        for (int ab : new int[] {-1, -100, 24, 99, 100, 2322, 2324, 2400, 2424, 504, Integer.MAX_VALUE, Integer.MIN_VALUE}) {
            refused("least ab " + ab, x -> x.least(1, ab, -1), BAD);
        }
        for (int at : new int[] {-2, 0, 2, 6, 23, 24, Integer.MAX_VALUE, Integer.MIN_VALUE}) {
            refused("least at " + at, x -> x.least(1, 305, at), BAD);
        }
        refused("it can't be", x -> x.least(3, 305, -1), 1);
        refused("it can't be", x -> x.least(3, 304, -1), NOT);
        refused("it can't be", x -> x.least(3, 304, 3), NOT);
        refused("it can't be, at a minute that is not between", x -> x.least(3, 304, 5), BAD);
        refused("it can't be, at a minute that is not between", x -> x.least(3, 304, 2), BAD);
    }

    private static void drawnAndYears() {
        for (int kn : new int[] {-1, -99, 0, 31, 99, 100, 131, 200, 300, 331, 399, 400, 401, 430, Integer.MAX_VALUE, Integer.MIN_VALUE}) {
            refused("drawn kn " + kn, x -> x.drawn(5, kn, -1), BAD);
        }
        for (int what : new int[] {-3, 5, 7, 8, Integer.MAX_VALUE, Integer.MIN_VALUE}) {
            refused("drawn what " + what, x -> x.drawn(5, 330, what), BAD);
        }
        for (int n : new int[] {-1, 0, 31, Integer.MAX_VALUE, Integer.MIN_VALUE}) {
            refused("years " + n, x -> x.years(5, n), BAD);
        }
    }

    private static void actsRefused() {
        for (int kind : new int[] {-1, 8, Integer.MAX_VALUE, Integer.MIN_VALUE}) {
            refused("body " + kind, x -> x.body(kind), BAD);
        }
        for (int i : new int[] {-1, 10, 23, 24, Integer.MAX_VALUE, Integer.MIN_VALUE}) {
            refused("trace " + i, x -> x.trace(i), BAD);
        }
        for (int what : new int[] {-1, 6, Integer.MAX_VALUE, Integer.MIN_VALUE}) {
            refused("count " + what, x -> x.count(what), BAD);
        }
    }

    private static void shelvesRefused() {
        for (int shelf : new int[] {-1, 6, Integer.MAX_VALUE, Integer.MIN_VALUE}) {
            refused("keep shelf " + shelf, x -> x.keep(shelf, 0), BAD);
            refused("keep nothing on shelf " + shelf, x -> x.keep(shelf, -1), BAD);
            refused("row shelf " + shelf, x -> x.row(shelf, 0, 1), BAD);
            refused("row shelf " + shelf + " below 0", x -> x.row(shelf, 0, -1), BAD);
            refused("put shelf " + shelf, x -> x.put(shelf, 0, 1), BAD);
            refused("element shelf " + shelf, x -> x.element(shelf, 0), Long.MIN_VALUE);
            refused("taken shelf " + shelf, x -> x.taken(shelf, 0), BAD);
        }
        for (int body : new int[] {-2, 8, 50, Integer.MAX_VALUE, Integer.MIN_VALUE}) {
            refused("keep body " + body, x -> x.keep(0, body), BAD);
            refused("keep body " + body + " where one is", x -> x.keep(4, body), BAD);
        }
        for (int sort : new int[] {-1, 5, Integer.MAX_VALUE, Integer.MIN_VALUE}) {
            refused("row sort " + sort, x -> x.row(0, sort, 1), BAD);
            refused("row sort " + sort + " below 0", x -> x.row(0, sort, -1), BAD);
        }
        for (int sort = 0; sort < 5; sort++) {
            int of = sort;
            refused("row of 61", x -> x.row(0, of, 61), BAD);
            refused("row of far more", x -> x.row(4, of, Integer.MAX_VALUE), BAD);
            refused("row below 0", x -> x.row(0, of, -1), -14);
            refused("row far below 0", x -> x.row(4, of, Integer.MIN_VALUE), -14);
        }
        for (int i : new int[] {-1, 0, 1, 60, Integer.MAX_VALUE, Integer.MIN_VALUE}) {
            refused("put on nothing " + i, x -> x.put(5, i, 1), -11);
            refused("put on a body " + i, x -> x.put(4, i, 1), -12);
            refused("element of nothing " + i, x -> x.element(5, i), Long.MIN_VALUE);
            refused("element of a body " + i, x -> x.element(4, i), Long.MIN_VALUE);
        }
        for (int i : new int[] {-1, 4, 60, Integer.MAX_VALUE, Integer.MIN_VALUE}) {
            refused("put at " + i, x -> x.put(0, i, 1), -13);
            refused("element at " + i, x -> x.element(0, i), Long.MIN_VALUE);
        }
        for (int k : new int[] {-1, 8, Integer.MAX_VALUE, Integer.MIN_VALUE}) {
            refused("taken for " + k, x -> x.taken(4, k), BAD);
            refused("a row taken for " + k, x -> x.taken(0, k), BAD);
            refused("nothing taken for " + k, x -> x.taken(5, k), BAD);
        }
        for (int k = 0; k < 8; k++) {
            int of = k;
            refused("nothing taken for " + k, x -> x.taken(5, of), -11);
            refused("a row taken for " + k, x -> x.taken(0, of), -12);
        }
        refused("an OWL SNOWED on taken for a BEAR", x -> x.taken(4, 4), -12);
    }

    private static void shiftsRefused() {
        for (int out : new int[] {-1, 6, Integer.MAX_VALUE, Integer.MIN_VALUE}) {
            refused("shift from " + out, x -> x.shift(out, 0, 0, 0, 1), BAD);
            refused("shift to " + out, x -> x.shift(0, 0, out, 0, 1), BAD);
            refused("shift from nothing to " + out, x -> x.shift(5, 0, out, 0, 1), BAD);
            refused("shift to nothing from " + out, x -> x.shift(out, 0, 5, 0, 1), BAD);
        }
        // SHELF, other SHELF, answer; SHELF 0 has four bytes, 1 three, 3 two shorts, 4 a BODY, 5 nothing.
        int[][] pairs = {{5, 0, -11}, {0, 5, -11}, {5, 5, -11}, {5, 4, -11}, {4, 5, -11}, {5, 3, -11}, {3, 5, -11}, {4, 0, -12},
            {0, 4, -12}, {4, 4, -12}, {4, 3, -12}, {0, 3, -12}, {3, 0, -12}};
        for (int[] pair : pairs) {
            for (int i : new int[] {0, -1, 99}) {
                for (int n : new int[] {0, 1, -1, 99}) {
                    refused("shift " + pair[0] + " " + pair[1], x -> x.shift(pair[0], i, pair[1], i, n), pair[2]);
                }
            }
        }
        int[][] places = {{0, 0, 4}, {2, 0, 3}, {4, 0, 1}, {5, 0, 0}, {0, 1, 3}, {0, 3, 1}, {0, 4, 0}, {-1, 0, 1}, {-1, 0, 0},
            {0, -1, 1}, {0, -1, 0}, {0, 0, -1}, {1, 1, -1}, {4, 3, -1}, {0, 0, 61}};
        for (int[] place : places) {
            refused("shift of places", x -> x.shift(0, place[0], 1, place[1], place[2]), -13);
        }
        for (int out : FAR_OUT) {
            refused("shift i " + out, x -> x.shift(0, out, 1, 0, 1), -13);
            refused("shift i " + out + " none", x -> x.shift(0, out, 1, 0, 0), -13);
            refused("shift j " + out, x -> x.shift(0, 0, 1, out, 1), -13);
            refused("shift n " + out, x -> x.shift(0, 1, 1, 1, out), -13);
            refused("shift i and n " + out, x -> x.shift(0, out, 1, out, out), -13);
        }
        refused("none from the ends", x -> x.shift(0, 4, 1, 3, 0), 0);
        refused("none from the starts", x -> x.shift(0, 0, 1, 0, 0), 0);
        refused("a row onto itself", x -> x.shift(0, 0, 0, 0, 4), 4);
    }

    /** Of a sort or shelf that is not there and of what lies behind: BAD is told. */
    private static void namedFirst() {
        refused("trees: no n, no bytes", x -> x.trees(4, -1, 0), BAD);
        refused("trees: no shelf, no place", x -> x.trees(6, -1, 1), BAD);
        refused("fits: no minute, nothing", x -> x.fits(5, 24), BAD);
        refused("fits: no minute, no bytes", x -> x.fits(3, 98), BAD);
        refused("fits: no sort, nothing", x -> x.fits(5, 499), BAD);
        refused("canBe: no minute, nothing", x -> x.canBe(5, 24), BAD);
        refused("canBe: how many, nothing", x -> x.canBe(5, 99), BAD);
        refused("canBe: how many, no bytes", x -> x.canBe(4, 99), BAD);
        refused("canBe: no sort, no bytes", x -> x.canBe(3, 400), BAD);
        refused("keep: no shelf, no body", x -> x.keep(6, 9), BAD);
        refused("put: a body, no place", x -> x.put(4, -1, 0), -12);
    }

    /** What only asks leaves all as it was; drawn walkers are so in thought. */
    private static void questionsChangeNothing() {
        refused("of", x -> x.of(0, 0), 2);
        refused("far", x -> x.of(0, 10), 0);
        refused("heard", x -> x.of(2, 11), 4);
        refused("walks", x -> x.of(0, 12), 2);
        refused("sound", x -> x.sound(0, 2, 0), 3);
        refused("fits", x -> x.fits(1, 99), 0);
        refused("none fit", x -> x.fits(2, 99), 0);
        refused("twoAtOnce", x -> x.twoAtOnce(1, 0, 0), 0);
        refused("least", x -> x.least(1, 305, 5), 1);
        refused("gone", x -> x.gone(0, 1), NOT);
        refused("apart", x -> x.apart(0, 1), 1);
        refused("enough", x -> x.enough(0, 2), 2);
        refused("tuned", x -> x.tuned(1), 1);
        refused("drawn", x -> x.drawn(7, 1, -2), 0);
        refused("judge", x -> x.judge(0, 1), 0);
        refused("trace", x -> x.trace(0), 61);
        refused("element", x -> x.element(3, 0), -7);
        refused("taken", x -> x.taken(4, 3), 5);
        refused("count", x -> x.count(3), 7);
    }

    private static void fullOnes() {
        made = RefusalsTest::fullOfTrees;
        refused("a ninth", x -> x.tree(0), FULL);
        refused("a ninth", x -> x.tree(999), FULL);
        refused("bad ahead of full", x -> x.tree(1000), BAD);
        refused("bad ahead of full", x -> x.tree(-1), BAD);
        refused("from a row", x -> x.trees(0, 0, 1), 0);
        refused("from a row", x -> x.trees(0, 0, 8), 0);
        refused("a fifteenth path", x -> x.path(67), FULL);
        refused("a fifteenth path", x -> x.path(76), FULL);
        refused("bad ahead of full", x -> x.path(1), BAD);
        refused("bad ahead of full", x -> x.path(10), BAD);
        refused("bad ahead of full", x -> x.path(66), BAD);
        refused("bad ahead of full", x -> x.path(68), BAD);
        refused("bad ahead of full", x -> x.path(86), BAD);
        refused("bad ahead of full", x -> x.path(-1), BAD);
        made = RefusalsTest::fullTape;
        refused("a byte more", x -> x.feed('+'), FULL);
        refused("a byte more", x -> x.feed(0), FULL);
        refused("a byte more", x -> x.feed(255), FULL);
        refused("bad ahead of full", x -> x.feed(256), BAD);
        refused("bad ahead of full", x -> x.feed(-1), BAD);
        made = RefusalsTest::fullOfBodies;
        refused("a body more", x -> x.body(0), FULL);
        refused("a body more", x -> x.body(7), FULL);
        refused("bad ahead of full", x -> x.body(8), BAD);
        refused("bad ahead of full", x -> x.body(-1), BAD);
        refused("no such body", x -> x.keep(0, 50), BAD);
    }

    private static BellTrees fullOfTrees() {
        BellTrees x = new BellTrees();
        for (int t = 0; t < 8; t++) {
            x.tree(100 * t + 95);
        }
        for (int ab : new int[] {1, 2, 3, 4, 5, 6, 7, 12, 13, 14, 15, 16, 17, 23}) {
            x.path(ab);
        }
        x.row(0, 0, 24);
        return x;
    }

    private static BellTrees fullTape() {
        BellTrees x = new BellTrees();
        x.tree(195);
        for (int i = 0; i < 120; i++) {
            x.feed(i % 2 == 0 ? 'l' : i == 119 ? ';' : '*');
        }
        return x;
    }

    private static BellTrees fullOfBodies() {
        BellTrees x = new BellTrees();
        for (int n = 0; n < 50; n++) {
            x.body(n % 8);
        }
        x.keep(0, 49);
        x.act(49, 3, 1);
        return x;
    }

    private static void nothingYet() {
        made = BellTrees::new;
        refused("undo", x -> x.undo(), STATE);
        refused("redo", x -> x.redo(), STATE);
        refused("back", x -> x.back(), STATE);
        refused("drawn", x -> x.drawn(1, 1, -1), STATE);
        refused("drawn", x -> x.drawn(1, 330, -2), STATE);
        refused("bad ahead of no trees", x -> x.drawn(1, 1, 0), BAD);
        refused("bad ahead of no trees", x -> x.drawn(1, 1, -3), BAD);
        refused("bad ahead of no trees", x -> x.drawn(1, 0, -1), BAD);
        refused("bad ahead of no trees", x -> x.drawn(1, 31, -1), BAD);
        refused("bad ahead of no trees", x -> x.drawn(1, 401, -1), BAD);
        refused("act", x -> x.act(0, 0, 5), 0);
        refused("trace", x -> x.trace(0), BAD);
        refused("keep", x -> x.keep(0, 0), BAD);
        refused("nothing on nothing", x -> x.keep(5, -1), 1);
        refused("years", x -> x.years(1, 30), 0);
        refused("tree", x -> x.mend(0, 0, 0), BAD);
        refused("path", x -> x.path(1), BAD);
        refused("least", x -> x.least(0, 0, -1), BAD);
        refused("sound", x -> x.sound(0, 0, 0), BellTrees.VOID);
        made = RefusalsTest::allUndone;
        refused("no more to undo", x -> x.undo(), STATE);
        made = RefusalsTest::allDone;
        refused("no more to do again", x -> x.redo(), STATE);
        refused("an image as things stand", x -> x.back(), 1);
    }

    private static BellTrees allDone() {
        BellTrees x = new BellTrees();
        x.tree(555);
        for (int i = 0; i < 41; i++) {
            x.mend(0, 0, i % 5);
        }
        x.image();
        return x;
    }

    private static BellTrees allUndone() {
        BellTrees x = allDone();
        for (int i = 0; i < 40; i++) {
            x.undo();
        }
        return x;
    }
}
