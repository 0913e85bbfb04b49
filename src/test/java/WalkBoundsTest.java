/** Promises 10 to 17 at their bounds: lengths of books and walks, minutes, sorts, the most that is told, what is alike. */
public final class WalkBoundsTest {
    private static final Check check = new Check();

    public static void main(String[] args) {
        lengthsOfBooks();
        minutesOfBooks();
        theMostThatIsTold();
        bytesThatAreNoSounds();
        theFirstOfThem();
        canBeAnywhere();
        whereInEachMinute();
        eachSort();
        twoAtOnceAtItsBounds();
        leastFromMinuteToMinute();
        leastOnItsWay();
        whatIsAWalk();
        onAnyShelves();
        minutesBothHave();
        goneAtItsBounds();
        apartByBothSorts();
        enoughOfOneToFour();
        enoughOfThoseThere();
        tunedAtItsBounds();
        check.end();
    }

    /** All are heard, of PITCH 0, 1, 2 and so on, each with a path to the next. */
    private static BellTrees row(int trees) {
        BellTrees x = new BellTrees();
        for (int t = 0; t < trees; t++) {
            x.tree(100 * t + 95);
            if (t > 0) {
                x.path(11 * t - 10);
            }
        }
        Check.law(x, "1");
        return x;
    }

    private static int[] all(int length, int v) {
        int[] all = new int[length];
        java.util.Arrays.fill(all, v);
        return all;
    }

    private static void lengthsOfBooks() {
        for (int length : new int[] {0, 1, 2, 22, 23, 24, 25, 59, 60}) {
            BellTrees x = row(1);
            Check.bytes(x, 0, all(length, 0));
            int minutes = Math.min(24, length);
            check.due("fits a book of " + length, x.fits(0, 99), 1);
            for (int minute : new int[] {0, minutes - 1, minutes, 23, 24}) {
                if (minute >= 0) {
                    check.due("minute " + minute + " of " + length, x.fits(0, minute), minute < minutes ? 0 : -1);
                    check.due("minute " + minute + " of " + length, x.canBe(0, minute), minute < minutes ? 1 : -1);
                }
            }
            check.due("two at once by " + length, x.twoAtOnce(0, 1, 0), 0);
            if (length > 0) {
                x.put(0, length - 1, 7);
                check.due("another at the end of " + length, x.fits(0, 99), length > 24 ? 1 : 0);
                x.put(0, minutes - 1, 7);
                check.due("another in the last minute of " + length, x.fits(0, 99), 0);
            }
        }
        BellTrees none = new BellTrees();
        none.row(0, 0, 0);
        check.due("no trees, no minutes", none.fits(0, 99), 1);
        check.due("no trees, no minutes, the last sort", none.fits(0, 399), 1);
        none.row(0, 0, 1);
        check.due("no trees, one minute", none.fits(0, 99), 0);
        none.put(0, 0, -1);
        check.due("no trees, one silent minute", none.fits(0, 99), 0);
    }

    private static void minutesOfBooks() {
        BellTrees x = row(2);
        Check.bytes(x, 5, all(24, 1));
        for (int sort = 0; sort < 4; sort++) {
            check.due("the first minute", x.fits(5, 100 * sort), 1);
            check.due("the last minute", x.fits(5, 100 * sort + 23), 1);
            check.due("behind it", x.fits(5, 100 * sort + 24), -1);
            check.due("ahead of how many", x.fits(5, 100 * sort + 98), -1);
            check.due("how many", x.fits(5, 100 * sort + 99), 1);
            check.due("the first minute", x.canBe(5, 100 * sort), 2);
            check.due("the last minute", x.canBe(5, 100 * sort + 23), 2);
            check.due("behind it", x.canBe(5, 100 * sort + 24), -1);
            check.due("ahead of how many", x.canBe(5, 100 * sort + 98), -1);
            check.due("how many", x.canBe(5, 100 * sort + 99), -1);
        }
        check.due("sort 4", x.fits(5, 400), -1);
        check.due("sort 4", x.canBe(5, 400), -1);
        check.due("sort 4", x.fits(5, 499), -1);
        check.due("below 0", x.fits(5, -1), -1);
        check.due("below 0", x.canBe(5, -1), -1);
        check.due("shelf 6", x.fits(6, 0), -1);
        check.due("shelf -1", x.canBe(-1, 0), -1);
    }

    /** Two forests by which nearly as many walks fit as are told, a few less and a few more. */
    private static void theMostThatIsTold() {
        int[] less = {1, 3, 4, 5, 6, 16, 26, 27, 34, 45, 46, 57, 67};
        int[] more = {1, 2, 4, 5, 14, 17, 24, 26, 34, 35, 36, 45, 47, 67};
        BellTrees x = twoPitches(less, 139, "010000101111111000011111");
        check.due("a few less than are told", x.fits(0, 99), 999998373);
        BellTrees y = twoPitches(more, 211, "110101000101011110010101");
        check.due("a few more than are told", y.fits(0, 99), 999999999);
        BellTrees z = row(1);
        for (int t = 1; t < 8; t++) {
            z.tree(95);
        }
        for (int ab : new int[] {1, 2, 3, 4, 5, 6, 7, 12, 23, 34, 45, 56, 67, 71}) {
            z.path(ab);
        }
        Check.bytes(z, 0, all(24, 0));
        check.due("far more than a long row of bits", z.fits(0, 99), 999999999);
        check.due("the first of so many", z.fits(0, 23), 0);
        check.due("the last of them can be anywhere", z.canBe(0, 23), 255);
        z.put(0, 23, 1);
        check.due("none of so many", z.fits(0, 99), 0);
        check.due("none of so many", z.fits(0, 0), -2);
        z.mend(3, 0, 1);
        check.due("so many to one tree", z.fits(0, 99), 999999999);
        check.due("to this one", z.canBe(0, 23), 8);
    }

    private static BellTrees twoPitches(int[] paths, int high, String bookBackward) {
        BellTrees x = new BellTrees();
        for (int t = 0; t < 8; t++) {
            x.tree(100 * (high >> t & 1) + 90);
        }
        for (int ab : paths) {
            x.path(ab);
        }
        Check.law(x, "1");
        x.row(0, 0, 24);
        for (int m = 0; m < 24; m++) {
            x.put(0, m, bookBackward.charAt(23 - m) - '0');
        }
        return x;
    }

    private static void bytesThatAreNoSounds() {
        BellTrees x = null;
        for (int v = -128; v < 128; v++) {
            if (v % 64 == 0) {
                x = new BellTrees();
                x.tree(95);
                x.tree(995);
                x.tree(296);
                Check.law(x, "1");
            }
            Check.bytes(x, 0, v);
            int due = v == 0 || v == 9 || v == -1 ? 1 : 0;
            check.due("byte " + v, x.fits(0, 99), due);
            check.due("byte " + v, x.fits(0, 0), v == 0 ? 0 : v == 9 ? 1 : v == -1 ? 2 : -2);
            check.due("byte " + v, x.canBe(0, 0), v == 0 ? 1 : v == 9 ? 2 : v == -1 ? 4 : -2);
        }
    }

    /** The first goes by the earliest minute in which two are unlike, not by a later one. */
    private static void theFirstOfThem() {
        BellTrees x = new BellTrees();
        for (int plh : new int[] {195, 195, 295, 295, 395}) {
            x.tree(plh);
        }
        x.path(3);
        x.path(12);
        x.path(24);
        x.path(34);
        Check.law(x, "1");
        Check.bytes(x, 0, 1, 2, 3);
        check.due("two fit", x.fits(0, 99), 2);
        check.due("the first", x.fits(0, 0), 0);
        check.due("though it goes by a later tree", x.fits(0, 1), 3);
        check.due("the end", x.fits(0, 2), 4);
        check.due("can be", x.canBe(0, 0), 3);
        check.due("can be", x.canBe(0, 1), 12);
        check.due("can be", x.canBe(0, 2), 16);
        Check.bytes(x, 0, 1, 1, 2, 3);
        x.path(1);
        check.due("four fit", x.fits(0, 99), 4);
        check.due("the first stays", x.fits(0, 1), 0);
        Check.bytes(x, 0, 1, 1, 3);
        check.due("it can't go on so", x.fits(0, 99), 0);
        x.path(14);
        check.due("the lowest that goes on", x.fits(0, 0), 0);
        check.due("by the one that goes on", x.fits(0, 1), 1);
        check.due("those that go on alone", x.canBe(0, 1), 2);
    }

    private static void canBeAnywhere() {
        BellTrees x = row(8);
        for (int t = 0; t < 8; t++) {
            Check.bytes(x, 0, t);
            check.due("at " + t, x.canBe(0, 0), 1 << t);
            check.due("at " + t, x.fits(0, 0), t);
        }
        Check.bytes(x, 0, 7, 6, 7);
        check.due("the last tree", x.canBe(0, 2), 128);
        check.due("by the one ahead of it", x.canBe(0, 1), 64);
        Check.bytes(x, 0, 7, 5);
        check.due("no path", x.canBe(0, 0), -2);
        check.due("no path", x.fits(0, 1), -2);
        Check.law(x, "0");
        Check.bytes(x, 0, all(24, -1));
        for (int minute : new int[] {0, 1, 23}) {
            check.due("silent, anywhere", x.canBe(0, minute), 255);
            check.due("silent, the first", x.fits(0, minute), 0);
        }
    }

    private static void whereInEachMinute() {
        for (int sort = 0; sort < 4; sort++) {
            BellTrees x = row(8);
            x.mend((sort + 1) % 4, 5, 0);
            Check.bytes(x, 0, 0, 1, 2, 3, 4, 5, 6, 7, 7, 6, 5, 4, 3, 2, 1, 0, 0, 1, 2, 3, 4, 5, 6, 7);
            for (int m = 0; m < 24; m++) {
                int tree = m < 8 ? m : m < 16 ? 15 - m : m - 16;
                check.due("at in minute " + m, x.fits(0, 100 * sort + m), tree);
                check.due("can be in minute " + m, x.canBe(0, 100 * sort + m), 1 << tree);
            }
            for (int m = 5; m < 13; m++) {
                check.due("on its way in minute " + m, x.least(100 * sort + 7, 512, m), m - 5);
                check.due("on its way back in minute " + m, x.least(100 * sort + 70, 512, m), 12 - m);
            }
            check.due("none of the next sort", x.fits(0, 100 * ((sort + 1) % 4) + 99), 0);
        }
    }

    /** Each SORT has a HEIGHT of its own. */
    private static void eachSort() {
        BellTrees x = row(2);
        x.mend(1, 2, 9);
        x.mend(3, 5, 9);
        Check.bytes(x, 0, 1);
        for (int sort = 0; sort < 4; sort++) {
            check.due("of sort " + sort, x.fits(0, 100 * sort + 99), sort == 3 ? 1 : 0);
            check.due("of sort " + sort, x.canBe(0, 100 * sort), sort == 3 ? 2 : -2);
            check.due("least of sort " + sort, x.least(100 * sort + 11, 23, -1), sort == 3 ? 24 : 0);
            Check.bytes(x, 1, 1);
            check.due("judge of sort " + sort, x.judge(sort, 10), sort == 3 ? -2 : 0);
            check.due("gone of sort " + sort, x.gone(sort, 10), sort == 3 ? 0 : -2);
            check.due("apart of sorts", x.apart(10 * sort + 3, 11), sort == 3 ? -2 : 0);
            check.due("apart of sorts", x.apart(30 + sort, 11), sort == 3 ? -2 : 0);
            check.due("twoAtOnce of sorts", x.twoAtOnce(0, 10 * sort + 3, 0), sort == 3 ? 0 : 1);
            check.due("twoAtOnce of sorts", x.twoAtOnce(0, 30 + sort, 0), 0);
            check.due("drawn of sort " + sort, x.drawn(1, 100 * sort + 30, 1) > 0 ? 1 : 0, sort == 3 ? 1 : 0);
        }
    }

    private static void twoAtOnceAtItsBounds() {
        BellTrees x = row(2);
        x.mend(1, 2, 9);
        x.mend(3, 5, 9);
        for (int length : new int[] {0, 1, 23, 24, 25, 60}) {
            Check.bytes(x, 0, all(length, 0));
            check.due("none such", x.twoAtOnce(0, 3, 0), 0);
            check.due("none such", x.twoAtOnce(0, 3, 1), -2);
            Check.bytes(x, 0, all(length, 1));
            int minutes = Math.min(24, length);
            check.due("all of them", x.twoAtOnce(0, 3, 0), minutes);
            check.due("the first", x.twoAtOnce(0, 3, 1), minutes == 0 ? -2 : 0);
            check.due("the other way round", x.twoAtOnce(0, 30, 0), 0);
        }
        Check.bytes(x, 0, all(25, 0));
        x.put(0, 24, 1);
        check.due("behind the last minute", x.twoAtOnce(0, 3, 0), 0);
        check.due("behind the last minute", x.twoAtOnce(0, 3, 1), -2);
        x.put(0, 23, 1);
        check.due("in the last minute", x.twoAtOnce(0, 3, 0), 1);
        check.due("in the last minute", x.twoAtOnce(0, 3, 1), 23);
        x.put(0, 7, 1);
        check.due("and in another one", x.twoAtOnce(0, 3, 0), 2);
        check.due("the first such", x.twoAtOnce(0, 3, 1), 7);
        x.put(0, 7, 5);
        check.due("of neither", x.twoAtOnce(0, 3, 1), 23);
        check.due("the last sorts", x.twoAtOnce(0, 33, 0), 0);
        for (int kk : new int[] {4, 34, 40, 43, 44, -1}) {
            check.due("kk " + kk, x.twoAtOnce(0, kk, 0), -1);
        }
        Check.bytes(x, 0, 1, 0, 1);
        check.due("no way from one to the other is asked for", x.twoAtOnce(0, 3, 0), 2);
    }

    private static void leastFromMinuteToMinute() {
        BellTrees x = row(8);
        for (int a : new int[] {0, 1, 22, 23}) {
            for (int b = a; b < 24; b++) {
                check.due("from " + a + " to " + b, x.least(300, 100 * a + b, -1), b - a + 1);
                check.due("at " + a, x.least(300, 100 * a + b, a), 0);
                check.due("at " + b, x.least(300, 100 * a + b, b), 0);
                check.due("ahead of " + a, x.least(300, 100 * a + b, a == 0 ? -2 : a - 1), -1);
                check.due("behind " + b, x.least(300, 100 * a + b, b + 1), -1);
            }
            if (a > 0) {
                check.due("backward", x.least(300, 100 * a + a - 1, -1), -1);
            }
            x = row(8);
        }
        check.due("b 24", x.least(0, 24, -1), -1);
        check.due("a 24", x.least(0, 2424, -1), -1);
        check.due("sort 4", x.least(400, 0, -1), -1);
        check.due("from 8", x.least(80, 0, -1), -1);
        check.due("to 8", x.least(8, 0, -1), -1);
        check.due("sort 3, from 7 to 7", x.least(377, 2323, -1), 1);
        check.due("there", x.least(377, 2323, 23), 7);
        for (int b = 0; b < 9; b++) {
            check.due("seven paths by minute " + b, x.least(7, b, -1), b < 7 ? -2 : b + 1);
            check.due("seven paths by minute " + b, x.least(7, b, b), b < 7 ? -2 : 7);
            check.due("backward by minute " + b, x.least(70, 1400 + 14 + b, -1), b < 7 ? -2 : b + 1);
        }
        BellTrees y = row(2);
        check.due("to one that is not there", y.least(2, 5, -1), -1);
        check.due("from one that is not there", y.least(20, 5, -1), -1);
        check.due("to the last", y.least(1, 5, -1), 6);
        check.due("bad ahead of what can't be", y.least(1, 0, 1), -1);
        check.due("it can't be", y.least(1, 0, 0), -2);
    }

    /** Of ways heard alike the first by trees; of ways heard less a longer one. */
    private static void leastOnItsWay() {
        BellTrees x = new BellTrees();
        for (int plh : new int[] {195, 199, 195, 199}) {
            x.tree(plh);
        }
        x.path(1);
        x.path(2);
        x.path(3);
        x.path(13);
        x.path(23);
        Check.law(x, "1");
        check.due("by a silent one", x.least(2, 2, -1), 2);
        check.due("by it", x.least(2, 2, 1), 3);
        check.due("away and back", x.least(0, 2, -1), 2);
        check.due("by the lower of two silent ones", x.least(0, 2, 1), 1);
        check.due("it stays there", x.least(0, 10, -1), 2);
        check.due("at the lowest", x.least(0, 10, 9), 1);
        check.due("till the end", x.least(0, 10, 10), 0);
        check.due("from silence to silence", x.least(13, 2323, -1), -2);
        check.due("from silence to silence", x.least(13, 2223, -1), 0);
        check.due("all day", x.least(11, 23, -1), 0);
        check.due("the first of the ways", x.least(33, 23, 1), 1);
        check.due("the lowest for as long as it can be", x.least(33, 23, 22), 1);
        check.due("and back", x.least(33, 23, 23), 3);
        x.mend(0, 4, 9);
        Check.law(x, "w<9");
        check.due("a minute in which nothing is heard", x.least(2, 2, -1), 1);
    }

    private static int walkOf(int trees, int... row) {
        BellTrees x = row(trees);
        Check.bytes(x, 5, row);
        int answer = x.walk(0, 5);
        Check.bytes(x, 0, row);
        check.due("judge, each TREE has its number as its PITCH", x.judge(0, 0), answer == -5 ? -5 : -2);
        check.due("apart", x.apart(0, 5), answer == -5 ? -5 : -2);
        check.due("gone", x.gone(0, 0) == -5 ? 1 : 0, answer == -5 ? 1 : 0);
        check.due("enough", x.enough(0, 1) == -5 ? 1 : 0, answer == -5 ? 1 : 0);
        check.due("walks in deed", x.of(0, 12), answer == -5 ? 0 : 1);
        return answer;
    }

    private static void whatIsAWalk() {
        check.due("none", walkOf(8), 0);
        check.due("no trees, no minutes", walkOf(0), 0);
        check.due("no trees, one minute", walkOf(0, 0), -5);
        for (int tree : new int[] {-128, -1, 0, 1, 7, 8, 9, 127}) {
            check.due("at " + tree, walkOf(8, tree), tree < 0 || tree > 7 ? -5 : 1);
            check.due("at " + tree + " of two", walkOf(2, tree), tree < 0 || tree > 1 ? -5 : 1);
            check.due("then at " + tree, walkOf(8, 0, tree), tree < 0 || tree > 1 ? -5 : 2);
            check.due("then at " + tree, walkOf(8, 7, 7, tree), tree != 7 ? -5 : 3);
        }
        check.due("two paths at once", walkOf(8, 0, 2), -5);
        check.due("back two paths at once", walkOf(8, 3, 2, 0), -5);
        check.due("up and down", walkOf(8, 0, 1, 2, 3, 4, 5, 6, 7, 7, 6, 5, 4, 3, 2, 1, 0, 0, 1, 2, 3, 4, 5, 6, 7), 24);
        check.due("not the last one", walkOf(8, 0, 1, 2, 3, 4, 5, 6, 7, 7, 6, 5, 4, 3, 2, 1, 0, 0, 1, 2, 3, 4, 5, 6, 4), -5);
        check.due("25 minutes", walkOf(1, all(25, 0)), 24);
        check.due("60 minutes", walkOf(1, all(60, 0)), 24);
        BellTrees x = row(2);
        x.mend(0, 3, 0);
        x.mend(1, 3, 0);
        Check.bytes(x, 0, 0, 1, 1);
        check.due("trees without bells are trees", x.walk(0, 0), 0);
        check.due("one walk", x.of(0, 12), 1);
    }

    /** A WALK and a BOOK on any two SHELVES, and BODIES on all others. */
    private static void onAnyShelves() {
        for (int w = 0; w < 6; w++) {
            for (int b = 0; b < 6; b++) {
                BellTrees x = row(2);
                x.body(0);
                for (int shelf = 0; shelf < 6; shelf++) {
                    x.keep(shelf, 0);
                }
                Check.bytes(x, b, -1, -1, -1);
                Check.bytes(x, w, 0, 0, 1);
                check.due("gone " + w + b, x.gone(0, 10 * w + b), w == b ? 0 : 3);
                check.due("judge " + w + b, x.judge(0, 10 * w + b), w == b ? -2 : 0);
                check.due("a book is no walk", x.apart(0, 10 * w + b), w == b ? -2 : -5);
                check.due("walk " + w, x.walk(0, w), 3);
                if (w != b) {
                    Check.bytes(x, b, 0, 0, 0);
                    check.due("gone " + w + b, x.gone(0, 10 * w + b), -2);
                    check.due("judge " + w + b, x.judge(0, 10 * w + b), 2);
                    check.due("apart " + w + b, x.apart(0, 10 * w + b), 2);
                    Check.bytes(x, w, 0, 2);
                    check.due("no walk " + w + b, x.gone(0, 10 * w + b), -5);
                    check.due("no walk " + w + b, x.judge(0, 10 * w + b), -5);
                    check.due("no walk " + w + b, x.apart(0, 10 * w + b), -5);
                    check.due("no walk " + b + w, x.apart(0, 10 * b + w), -5);
                    check.due("a book that is no walk " + b + w, x.judge(0, 10 * b + w), 1);
                }
            }
        }
    }

    private static void minutesBothHave() {
        for (int w = 0; w <= 4; w++) {
            for (int b = 0; b <= 4; b++) {
                BellTrees x = row(2);
                Check.bytes(x, 0, all(w, 1));
                Check.bytes(x, 1, all(b, 1));
                Check.bytes(x, 2, all(b, 0));
                boolean none = w == 0 || b == 0;
                check.due("judge", x.judge(0, 1), -2);
                check.due("judge", x.judge(0, 2), none ? -2 : 0);
                check.due("gone", x.gone(0, 1), 0);
                check.due("gone", x.gone(0, 2), none ? 0 : -2);
                check.due("apart", x.apart(0, 1), -2);
                check.due("apart", x.apart(0, 2), none ? -2 : 0);
                check.due("apart", x.apart(0, 20), none ? -2 : 0);
                if (w > 0 && b > 0) {
                    int last = Math.min(w, b) - 1;
                    x.put(1, last, -1);
                    check.due("the last of both", x.judge(0, 1), last);
                    check.due("the last of both", x.gone(0, 1), last == 0 ? 2 : -2);
                    x.put(1, last, 1);
                }
                if (b > w) {
                    x.put(1, w, 9);
                    check.due("behind the walk", x.judge(0, 1), -2);
                    check.due("behind the walk", x.gone(0, 1), 0);
                }
            }
        }
        BellTrees x = row(2);
        Check.bytes(x, 0, all(60, 1));
        Check.bytes(x, 1, all(60, 1));
        x.put(1, 24, 5);
        check.due("behind the last minute", x.judge(0, 1), -2);
        check.due("behind the last minute", x.gone(0, 1), 0);
        x.put(1, 23, 5);
        check.due("in the last minute", x.judge(0, 1), 23);
        check.due("in the last minute", x.gone(0, 1), -2);
        x.put(1, 23, 0);
        check.due("apart in the last minute", x.apart(0, 1), 23);
        x.put(1, 23, 1);
        x.put(1, 24, 0);
        check.due("apart behind the last minute", x.apart(0, 1), -2);
    }

    private static void goneAtItsBounds() {
        for (int t = 0; t < 8; t++) {
            BellTrees x = row(8);
            Check.bytes(x, 0, t);
            Check.bytes(x, 1, -1);
            check.due("the bell at " + t, x.gone(0, 1), 1 << t);
            x.mend(t, 3, 0);
            check.due("it is not there already", x.gone(0, 1), 0);
            Check.bytes(x, 1, t);
            check.due("it was heard, though", x.gone(0, 1), -2);
        }
        BellTrees x = row(8);
        Check.bytes(x, 0, 0, 1, 2, 3, 4, 5, 6, 7);
        Check.bytes(x, 1, all(8, -1));
        check.due("all of them", x.gone(0, 1), 255);
        Check.bytes(x, 1, 0, 1, 2, 3, 4, 5, 6, 7);
        check.due("none of them", x.gone(0, 1), 0);
        Check.bytes(x, 1, 0, -1, 2, 3, 4, 5, 6, -1);
        check.due("two of them", x.gone(0, 1), 130);
        Check.bytes(x, 1, 0, -1, 2, 3, 4, 5, 6, 6);
        check.due("another pitch", x.gone(0, 1), -2);
        Check.bytes(x, 0, 1, 2, 1);
        Check.bytes(x, 1, -1, 2, 1);
        check.due("gone, and there", x.gone(0, 1), -2);
        Check.bytes(x, 1, -1, 2, -1);
        check.due("gone each time", x.gone(0, 1), 2);
        check.due("in thought", x.of(1, 3), 1);
        x.mend(1, 2, 9);
        check.due("too high for it, so silent already", x.gone(0, 1), 0);
    }

    private static void apartByBothSorts() {
        BellTrees x = row(3);
        x.mend(2, 2, 9);
        x.mend(1, 5, 9);
        Check.bytes(x, 4, 0, 1, 2, 2);
        Check.bytes(x, 5, 0, 1, 2, 1);
        check.due("one and the same", x.apart(0, 44), -2);
        check.due("one and the same, of the lower and the higher", x.apart(1, 44), 2);
        check.due("one and the same, of the higher and the lower", x.apart(10, 44), 2);
        check.due("one and the same, of the higher", x.apart(11, 44), -2);
        check.due("of the lower", x.apart(0, 45), 3);
        check.due("the other way round", x.apart(0, 54), 3);
        check.due("of the lower and the higher", x.apart(1, 45), 2);
        check.due("the other way round", x.apart(10, 54), 2);
        x.mend(1, 0, 2);
        check.due("of the higher, alike by pitch", x.apart(11, 45), -2);
        check.due("of the lower, silence and a sound", x.apart(0, 45), 3);
        Check.bytes(x, 5, 1);
        check.due("the first minute", x.apart(0, 45), 0);
        check.due("the last sorts", x.apart(33, 45), 0);
    }

    private static void enoughOfOneToFour() {
        BellTrees x = row(4);
        for (int shelf = 0; shelf < 4; shelf++) {
            Check.bytes(x, shelf, shelf);
        }
        check.due("none of them", x.enough(0, 0), -1);
        check.due("one", x.enough(0, 1), 1);
        check.due("two", x.enough(0, 2), 3);
        check.due("three", x.enough(0, 3), 7);
        check.due("four", x.enough(3, 4), 15);
        check.due("five", x.enough(0, 5), -1);
        x.keep(3, -1);
        check.due("what is behind the third is not asked for", x.enough(0, 3), 7);
        check.due("the fourth", x.enough(0, 4), -11);
        x.row(3, 1, 1);
        check.due("what is behind the third is not asked for", x.enough(0, 3), 7);
        check.due("the fourth", x.enough(0, 4), -12);
        Check.bytes(x, 3, 9);
        check.due("what is behind the third is not asked for", x.enough(0, 3), 7);
        check.due("the fourth", x.enough(0, 4), -5);
        x.keep(2, -1);
        check.due("nothing ahead of no walk", x.enough(0, 4), -11);
        x.row(2, 4, 1);
        check.due("another kind ahead of no walk", x.enough(0, 4), -12);
        x.keep(0, -1);
        check.due("nothing ahead of another kind", x.enough(0, 4), -11);
        check.due("the first", x.enough(0, 1), -11);
        BellTrees y = new BellTrees();
        for (int t = 0; t < 8; t++) {
            y.tree(195);
        }
        Check.law(y, "1");
        Check.bytes(y, 0, 7);
        check.due("the last bell", y.enough(0, 1), 128);
        Check.bytes(y, 1, 6);
        check.due("alike by pitch", y.enough(0, 2), -2);
        y.row(1, 0, 0);
        check.due("one of no minutes", y.enough(0, 2), -2);
        y.row(0, 0, 0);
        check.due("none of any minutes", y.enough(0, 1), -2);
    }

    private static void enoughOfThoseThere() {
        BellTrees x = row(3);
        Check.bytes(x, 0, 0, 1, 2);
        check.due("of like ones the least", x.enough(0, 1), 1);
        x.mend(0, 3, 0);
        check.due("of those that are there", x.enough(0, 1), 2);
        x.mend(1, 2, 9);
        check.due("of those that ring", x.enough(0, 1), 4);
        x.mend(2, 3, 0);
        check.due("none is enough", x.enough(0, 1), -2);
        BellTrees y = row(3);
        Check.bytes(y, 0, 1, 1, 0);
        Check.bytes(y, 1, 1, 1, 2);
        check.due("one for both, told by a silence in the one", y.enough(0, 2), 3);
        Check.bytes(y, 1, 1, 0, 0);
        check.due("the fewest, of like ones the least", y.enough(0, 2), 1);
        y.mend(0, 3, 0);
        check.due("another that is enough alone", y.enough(0, 2), 2);
        BellTrees z = row(8);
        Check.bytes(z, 0, 6, 7);
        Check.bytes(z, 1, 7, 6);
        check.due("one alone, not two lower ones", z.enough(0, 2), 64);
        Check.bytes(z, 2, 7, 7);
        check.due("of the highest", z.enough(0, 3), 128);
    }

    private static void tunedAtItsBounds() {
        BellTrees none = new BellTrees();
        check.due("no trees", none.tuned(0), 0);
        check.due("no trees", none.tuned(1), 0);
        BellTrees x = row(8);
        check.due("no two are alike", x.tuned(0), 0);
        check.due("no two are alike", x.tuned(1), 0);
        x.mend(7, 0, 6);
        check.due("the last two", x.tuned(0), 1);
        check.due("the last two, the least bits", x.tuned(1), 64);
        x.mend(0, 0, 6);
        check.due("without a path they may be alike", x.tuned(0), 1);
        for (int t = 0; t < 8; t++) {
            x.mend(t, 0, 9);
        }
        check.due("a row of eight", x.tuned(0), 4);
        check.due("a row of eight, the least bits", x.tuned(1), 1 + 4 + 16 + 64);
        for (int what : new int[] {-1, 2, 10}) {
            check.due("what " + what, x.tuned(what), -1);
        }
        BellTrees y = new BellTrees();
        for (int t = 0; t < 8; t++) {
            y.tree(0);
        }
        for (int a = 3; a < 8; a++) {
            for (int b = a + 1; b < 8; b++) {
                y.path(10 * a + b);
            }
        }
        check.due("five, each with each", y.tuned(0), 4);
        check.due("five, each with each, the least bits", y.tuned(1), 8 + 16 + 32 + 64);
        y.mend(3, 3, 0);
        check.due("there or not", y.tuned(0), 4);
        y.mend(3, 0, 1);
        check.due("one is another already", y.tuned(0), 3);
        check.due("one is another already", y.tuned(1), 16 + 32 + 64);
        y.path(1);
        check.due("and two others", y.tuned(1), 1 + 16 + 32 + 64);
    }
}
