/** Promises 1 to 6: a new object, trees, paths, mending and what is told of them. */
public final class TreesTest {
    private static final Check check = new Check();

    public static void main(String[] args) {
        newObject();
        treesOneByOne();
        treesFromARow();
        treesFromWhatIsNoRow();
        treesFromARowTillFull();
        paths();
        pathsTillFull();
        mending();
        mendingRefused();
        farAndHeard();
        check.end();
    }

    private static void newObject() {
        BellTrees x = new BellTrees();
        for (int what = 0; what < 6; what++) {
            check.due("new count " + what, x.count(what), 0);
        }
        for (int minute = 0; minute < 24; minute++) {
            check.due("new wind", x.of(minute, 4), 2);
        }
        for (int sort = 0; sort < 4; sort++) {
            check.due("new height", x.of(sort, 5), 5);
        }
        check.due("new snow", x.of(0, 6), 0);
        check.due("new hut", x.of(0, 7), 0);
        check.due("new walks", x.of(0, 12), 0);
        check.due("no tree", x.of(0, 0), -1);
        for (int shelf = 0; shelf < 6; shelf++) {
            check.due("nothing on a shelf", x.taken(shelf, 0), -11);
        }
        check.due("no image", x.back(), -5);
    }

    private static void treesOneByOne() {
        BellTrees x = new BellTrees();
        check.due("below 0", x.tree(-1), -1);
        check.due("above", x.tree(1000), -1);
        check.due("none came", x.count(0), 0);
        check.due("the first", x.tree(907), 0);
        check.due("the second", x.tree(42), 1);
        check.due("pitch", x.of(0, 0), 9);
        check.due("loud", x.of(0, 1), 0);
        check.due("hangs", x.of(0, 2), 7);
        check.due("there", x.of(0, 3), 1);
        check.due("pitch", x.of(1, 0), 0);
        check.due("loud", x.of(1, 1), 4);
        check.due("hangs", x.of(1, 2), 2);
        for (int t = 2; t < 8; t++) {
            check.due("more", x.tree(999), t);
        }
        check.due("full", x.tree(0), -3);
        check.due("bad ahead of full", x.tree(-5), -1);
        check.due("bad ahead of full", x.tree(Integer.MAX_VALUE), -1);
        check.due("eight", x.count(0), 8);
        check.due("the last as it was", x.of(7, 2), 9);
    }

    private static void treesFromARow() {
        BellTrees x = new BellTrees();
        Check.bytes(x, 2, 7, 1, 2, 3, 4, 5, 6, 0, 0, 9, 9, 9, 10, 1, 1, 2, 2);
        check.due("n 0", x.trees(2, 0, 0), -1);
        check.due("n 9", x.trees(2, 0, 9), -1);
        check.due("shelf 6", x.trees(6, 0, 1), -1);
        check.due("shelf -1", x.trees(-1, 0, 1), -1);
        check.due("i below 0", x.trees(2, -1, 3), 0);
        check.due("i lowest", x.trees(2, Integer.MIN_VALUE, 8), 0);
        check.due("i highest", x.trees(2, Integer.MAX_VALUE, 8), 0);
        check.due("none yet", x.count(0), 0);
        check.due("two of them", x.trees(2, 1, 2), 2);
        check.due("pitch", x.of(0, 0), 1);
        check.due("loud", x.of(0, 1), 2);
        check.due("hangs", x.of(0, 2), 3);
        check.due("there", x.of(0, 3), 1);
        check.due("hangs of the second", x.of(1, 2), 6);
        check.due("till one is not as it may be", x.trees(2, 0, 8), 4);
        check.due("six", x.count(0), 6);
        check.due("the last that came", x.of(5, 0), 9);
        check.due("at one that may not be", x.trees(2, 12, 8), 0);
        check.due("the row ends within a three", x.trees(2, 14, 8), 1);
        check.due("1 2 2", x.of(6, 0), 1);
        check.due("within a three", x.trees(2, 15, 8), 0);
        check.due("at the end", x.trees(2, 17, 8), 0);
        Check.bytes(x, 3, 1, 1, -1);
        check.due("below 0 is not as it may be", x.trees(3, 0, 1), 0);
        Check.bytes(x, 3, 1, 10, 1);
        check.due("LOUD 10", x.trees(3, 0, 1), 0);
        check.due("seven", x.count(0), 7);
    }

    private static void treesFromWhatIsNoRow() {
        BellTrees x = new BellTrees();
        check.due("missing", x.trees(0, 0, 1), 0);
        check.due("bad ahead of missing", x.trees(0, 0, 9), -1);
        for (int sort = 1; sort < 5; sort++) {
            x.row(0, sort, 9);
            check.due("no bytes", x.trees(0, 0, 1), -12);
        }
        x.body(0);
        x.keep(0, 0);
        check.due("a body", x.trees(0, 0, 1), -12);
        x.keep(0, -1);
        check.due("missing again", x.trees(0, 0, 8), 0);
        x.row(0, 0, 0);
        check.due("an empty row", x.trees(0, 0, 8), 0);
        x.row(0, 0, 60);
        check.due("eight of zeros", x.trees(0, 57, 1), 1);
        check.due("one", x.count(0), 1);
    }

    private static void treesFromARowTillFull() {
        BellTrees x = new BellTrees();
        x.row(5, 0, 60);
        check.due("five", x.trees(5, 0, 5), 5);
        check.due("till full", x.trees(5, 0, 8), 3);
        check.due("full", x.trees(5, 0, 8), 0);
        check.due("eight", x.count(0), 8);
        BellTrees y = new BellTrees();
        y.row(0, 0, 24);
        check.due("as many as just fill the row", y.trees(0, 0, 8), 8);
        BellTrees z = new BellTrees();
        z.row(0, 0, 24);
        check.due("one less, and a part of a three", z.trees(0, 1, 8), 7);
    }

    private static void paths() {
        BellTrees x = new BellTrees();
        check.due("no trees", x.path(1), -1);
        x.tree(0);
        x.tree(0);
        x.tree(0);
        check.due("one and the same", x.path(11), -1);
        check.due("no such tree", x.path(3), -1);
        check.due("no such tree", x.path(30), -1);
        check.due("below 0", x.path(-12), -1);
        check.due("far above", x.path(112), -1);
        check.due("highest", x.path(Integer.MAX_VALUE), -1);
        check.due("lowest", x.path(Integer.MIN_VALUE), -1);
        check.due("first", x.path(12), 1);
        check.due("again", x.path(12), -1);
        check.due("the other way round", x.path(21), -1);
        check.due("second", x.path(20), 2);
        check.due("two", x.count(1), 2);
    }

    private static void pathsTillFull() {
        BellTrees x = new BellTrees();
        for (int t = 0; t < 8; t++) {
            x.tree(0);
        }
        int many = 0;
        for (int a = 0; a < 8; a++) {
            for (int b = a + 1; b < 8; b++) {
                many++;
                check.due("path " + a + b, x.path(10 * a + b), many <= 14 ? many : -3);
            }
        }
        check.due("bad ahead of full", x.path(10), -1);
        check.due("bad ahead of full", x.path(77), -1);
        check.due("fourteen", x.count(1), 14);
    }

    private static void mending() {
        BellTrees x = new BellTrees();
        x.tree(123);
        x.tree(456);
        int[][] rows = {{1, 0, 4, 9}, {1, 1, 5, 0}, {1, 2, 6, 9}, {1, 3, 1, 0}, {23, 4, 2, 9}, {3, 5, 5, 0}, {0, 6, 0, 9},
            {0, 7, 0, 7}};
        for (int[] row : rows) {
            check.due("was", x.of(row[0], row[1]), row[2]);
            check.due("mend", x.mend(row[0], row[1], row[3]), row[2]);
            check.due("is", x.of(row[0], row[1]), row[3]);
            check.due("and is still", x.mend(row[0], row[1], row[3]), row[3]);
        }
        check.due("the other tree", x.of(0, 0), 1);
        check.due("the other minute", x.of(22, 4), 2);
        check.due("the other sort", x.of(2, 5), 5);
        check.due("changes, each told once", x.count(3), 8);
    }

    private static void mendingRefused() {
        BellTrees x = new BellTrees();
        x.tree(123);
        int[] most = {9, 9, 9, 1, 9, 9, 9, 7};
        int[] beyond = {1, 1, 1, 1, 24, 4, 1, 1};
        for (int what = 0; what < 8; what++) {
            int was = x.of(0, what);
            check.due("v below 0", x.mend(0, what, -1), -1);
            check.due("v above", x.mend(0, what, most[what] + 1), -1);
            check.due("number below 0", x.mend(-1, what, 0), -1);
            check.due("number above", x.mend(beyond[what], what, 0), -1);
            check.due("of below 0", x.of(-1, what), -1);
            check.due("of above", x.of(beyond[what], what), -1);
            check.due("as it was", x.of(0, what), was);
            check.due("the highest", x.mend(beyond[what] - 1, what, most[what]) >= 0 ? 1 : 0, 1);
        }
        for (int what : new int[] {-1, 8, 9, 10, 11, 12, Integer.MAX_VALUE, Integer.MIN_VALUE}) {
            check.due("no such what", x.mend(0, what, 0), -1);
        }
        for (int what : new int[] {-1, 8, 9, 13, Integer.MAX_VALUE, Integer.MIN_VALUE}) {
            check.due("no such what", x.of(0, what), -1);
        }
        check.due("only the good ones are changes, and THERE was 1 already", x.count(3), 7);
    }

    private static void farAndHeard() {
        BellTrees x = new BellTrees();
        for (int t = 0; t < 8; t++) {
            check.due("not there yet", x.of(t, 10), -1);
            x.tree(195);
        }
        for (int t = 0; t < 6; t++) {
            x.path(10 * t + t + 1);
        }
        for (int t = 0; t < 7; t++) {
            check.due("far along a row", x.of(t, 10), t);
        }
        check.due("no way", x.of(7, 10), 9);
        x.path(60);
        check.due("the shorter way round", x.of(5, 10), 2);
        check.due("the shorter way round", x.of(4, 10), 3);
        x.mend(0, 7, 3);
        check.due("another hut", x.of(3, 10), 0);
        check.due("another hut", x.of(0, 10), 3);
        check.due("another hut", x.of(6, 10), 3);
        x.mend(0, 7, 7);
        check.due("a hut alone", x.of(7, 10), 0);
        check.due("a hut alone", x.of(0, 10), 9);
        check.due("no such tree", x.of(8, 10), -1);
        check.due("no such tree", x.of(-1, 10), -1);
        check.due("no such tree", x.of(8, 11), -1);
        check.due("no such tree", x.of(-1, 11), -1);
        check.due("number 0 alone", x.of(1, 12), -1);
        check.due("number 0 alone", x.of(-1, 12), -1);
        x.mend(0, 7, 0);
        Check.bytes(x, 0, 0, 0, 1, 0);
        check.due("a walk in deed", x.walk(0, 0), 4);
        check.due("heard", x.of(0, 11), 3);
        check.due("heard", x.of(1, 11), 1);
        check.due("not heard", x.of(2, 11), 0);
        check.due("walks", x.of(0, 12), 1);
        BellTrees y = new BellTrees();
        y.tree(0);
        y.mend(0, 7, 1);
        check.due("the hut's tree is not there", y.of(0, 10), 9);
    }
}
