/** Promises 1 to 6 at their bounds: the last that is taken, the first that is not, and how each thing is at first. */
public final class TreeBoundsTest {
    private static final Check check = new Check();

    public static void main(String[] args) {
        newOnesAreAlike();
        constants();
        digitsOfATree();
        eightTrees();
        valuesFromARow();
        placesInARow();
        howManyFromARow();
        fullFromARow();
        treesThatCameAreNew();
        pathsOfTheLastTree();
        fourteenPaths();
        lowestAndHighest();
        firstAndLastNumbers();
        theHutNeedNotBeThere();
        farAtItsBounds();
        farWithoutABell();
        heardAtItsBounds();
        check.end();
    }

    private static void newOnesAreAlike() {
        String first = State.of(new BellTrees());
        BellTrees x = new BellTrees();
        x.tree(195);
        x.feed('0');
        x.law();
        x.mend(0, 4, 9);
        x.mend(0, 5, 9);
        x.mend(0, 6, 9);
        x.mend(0, 7, 7);
        x.row(0, 0, 5);
        x.body(5);
        x.act(0, 3, 1);
        x.image();
        BellTrees y = new BellTrees();
        check.holds("what one object does no other one sees", State.of(y).equals(first));
        check.holds("of a new object the first is changed", !State.of(x).equals(first));
        BellTrees z = new BellTrees();
        for (int what : new int[] {0, 1, 2, 3, 10, 11}) {
            check.due("no trees " + what, z.of(0, what), -1);
        }
        check.due("nothing tuned", z.tuned(0), 0);
        check.due("no image of trees", z.image(), 0);
        for (int shelf = 0; shelf < 6; shelf++) {
            check.due("nothing on shelf " + shelf, z.put(shelf, 0, 0), -11);
            check.due("nothing on shelf " + shelf, z.taken(shelf, 0), -11);
        }
        check.due("no body", z.act(0, 0, 1), 0);
        check.due("no trace", z.trace(0), -1);
    }

    private static void constants() {
        check.due("BAD", BellTrees.BAD, -1);
        check.due("NOT", BellTrees.NOT, -2);
        check.due("FULL", BellTrees.FULL, -3);
        check.due("STATE", BellTrees.STATE, -5);
        check.due("VOID", BellTrees.VOID, -2000000000);
    }

    private static void digitsOfATree() {
        int[] plhs = {0, 9, 10, 90, 99, 100, 109, 190, 900, 909, 990, 999};
        for (int plh : plhs) {
            BellTrees x = new BellTrees();
            check.due("tree " + plh, x.tree(plh), 0);
            check.due("PITCH of " + plh, x.of(0, 0), plh / 100);
            check.due("LOUD of " + plh, x.of(0, 1), plh / 10 % 10);
            check.due("HANGS of " + plh, x.of(0, 2), plh % 10);
            check.due("THERE of " + plh, x.of(0, 3), 1);
            check.due("HEARD of " + plh, x.of(0, 11), 0);
        }
        for (int plh : new int[] {-1, 1000, 1001, -1000, Integer.MAX_VALUE, Integer.MIN_VALUE}) {
            BellTrees x = new BellTrees();
            check.due("tree " + plh, x.tree(plh), -1);
            check.due("none of " + plh, x.count(0), 0);
        }
    }

    private static void eightTrees() {
        BellTrees x = new BellTrees();
        for (int t = 0; t < 8; t++) {
            check.due("how many ahead of " + t, x.count(0), t);
            check.due("not there yet", x.of(t, 3), -1);
            check.due("number " + t, x.tree(111 * t), t);
            check.due("there", x.of(t, 3), 1);
        }
        check.due("the ninth", x.tree(888), -3);
        check.due("eight", x.count(0), 8);
        for (int t = 0; t < 8; t++) {
            check.due("PITCH still", x.of(t, 0), t);
        }
        check.due("none behind the eighth", x.of(8, 0), -1);
    }

    /** Each of a three from -1 to 10, and far out: what is not 0 .. 9 ends it, and those ahead came. */
    private static void valuesFromARow() {
        for (int place = 0; place < 3; place++) {
            for (int v : new int[] {-128, -1, 0, 9, 10, 127}) {
                BellTrees x = new BellTrees();
                Check.bytes(x, 0, 1, 2, 3, 4, 5, 6, 7, 8, 9);
                x.put(0, 3 + place, v);
                boolean may = v >= 0 && v <= 9;
                check.due("with " + v + " at " + place, x.trees(0, 0, 3), may ? 3 : 1);
                check.due("as many came", x.count(0), may ? 3 : 1);
                check.due("the one ahead came", x.of(0, 2), 3);
                check.due("it came as it is", x.of(1, place), may ? v : -1);
                check.due("none behind it", x.of(2, 0), may ? 7 : -1);
            }
        }
    }

    private static void placesInARow() {
        for (int size : new int[] {0, 1, 2, 3, 4, 5, 6, 24, 59, 60}) {
            for (int i = Math.max(0, size - 7); i <= size + 1; i++) {
                BellTrees x = new BellTrees();
                x.row(5, 0, size);
                check.due("from " + i + " of " + size, x.trees(5, i, 8), Math.max(0, (size - i) / 3));
                check.due("trees", x.count(0), Math.max(0, (size - i) / 3));
            }
        }
        BellTrees x = new BellTrees();
        Check.bytes(x, 0, 1, 1, 1, 2, 2, 2);
        for (int i : new int[] {-1, -3, Integer.MIN_VALUE, Integer.MAX_VALUE, Integer.MAX_VALUE - 1, Integer.MAX_VALUE - 22}) {
            for (int n : new int[] {1, 8}) {
                check.due("from " + i, x.trees(0, i, n), 0);
            }
        }
        check.due("none came", x.count(0), 0);
        check.due("from 0", x.trees(0, 0, 1), 1);
        check.due("from 3", x.trees(0, 3, 1), 1);
        check.due("the first three", x.of(0, 0), 1);
        check.due("the second three", x.of(1, 0), 2);
    }

    private static void howManyFromARow() {
        for (int n = -1; n <= 10; n++) {
            BellTrees x = new BellTrees();
            x.row(0, 0, 60);
            int due = n < 1 || n > 8 ? -1 : n;
            check.due("n " + n, x.trees(0, 0, n), due);
            check.due("trees of n " + n, x.count(0), Math.max(0, due));
        }
        for (int shelf = -1; shelf <= 6; shelf++) {
            BellTrees x = new BellTrees();
            x.row(Math.max(0, Math.min(5, shelf)), 0, 3);
            check.due("shelf " + shelf, x.trees(shelf, 0, 1), shelf < 0 || shelf > 5 ? -1 : 1);
        }
    }

    private static void fullFromARow() {
        for (int ahead = 0; ahead <= 8; ahead++) {
            BellTrees x = new BellTrees();
            for (int t = 0; t < ahead; t++) {
                x.tree(999);
            }
            x.row(0, 0, 60);
            check.due("behind " + ahead, x.trees(0, 0, 8), 8 - ahead);
            check.due("full behind " + ahead, x.count(0), 8);
            check.due("no more", x.trees(0, 0, 1), 0);
        }
    }

    private static void treesThatCameAreNew() {
        BellTrees x = new BellTrees();
        Check.bytes(x, 0, 9, 0, 9);
        x.trees(0, 0, 1);
        check.due("PITCH", x.of(0, 0), 9);
        check.due("LOUD", x.of(0, 1), 0);
        check.due("HANGS", x.of(0, 2), 9);
        check.due("THERE at first", x.of(0, 3), 1);
        check.due("FAR", x.of(0, 10), 0);
        check.due("HEARD", x.of(0, 11), 0);
        check.due("no change", x.count(3), 0);
        check.due("the row stays", x.element(0, 0), 9);
    }

    private static void pathsOfTheLastTree() {
        BellTrees x = new BellTrees();
        for (int t = 0; t < 7; t++) {
            x.tree(0);
        }
        check.due("to one that is not there yet", x.path(67), -1);
        check.due("from one that is not there yet", x.path(76), -1);
        check.due("a new one", x.tree(0), 7);
        check.due("to it", x.path(67), 1);
        check.due("there already", x.path(67), -1);
        check.due("the other way round", x.path(76), -1);
        check.due("to number 8", x.path(78), -1);
        check.due("from number 8", x.path(87), -1);
        check.due("to number 9", x.path(79), -1);
        check.due("from number 9", x.path(90), -1);
        check.due("from number 10", x.path(100), -1);
        for (int t = 0; t < 8; t++) {
            check.due("one and the same " + t, x.path(11 * t), -1);
        }
        check.due("to the first", x.path(70), 2);
        check.due("two", x.count(1), 2);
        BellTrees y = new BellTrees();
        y.tree(0);
        y.tree(0);
        y.mend(0, 3, 0);
        check.due("a bell that is gone leaves the tree", y.path(10), 1);
    }

    private static void fourteenPaths() {
        BellTrees x = new BellTrees();
        for (int t = 0; t < 8; t++) {
            x.tree(195);
        }
        int many = 0;
        for (int a = 7; a > 0 && many < 14; a--) {
            for (int b = a - 1; b >= 0 && many < 14; b--) {
                many++;
                check.due("path " + a + b, x.path(10 * a + b), many);
                check.due("as many", x.count(1), many);
            }
        }
        check.due("the fifteenth", x.path(10), -3);
        check.due("fourteen", x.count(1), 14);
        check.due("it came not: still no way", x.least(1, 1, -1), -2);
        check.due("bad ahead of full", x.path(76), -1);
        check.due("bad ahead of full", x.path(0), -1);
    }

    private static void lowestAndHighest() {
        int[] most = {9, 9, 9, 1, 9, 9, 9, 7};
        for (int what = 0; what < 8; what++) {
            BellTrees x = new BellTrees();
            x.tree(444);
            int was = x.of(0, what);
            for (int v = -2; v <= most[what] + 2; v++) {
                boolean may = v >= 0 && v <= most[what];
                check.due("mend " + what + " to " + v, x.mend(0, what, v), may ? was : -1);
                was = may ? v : was;
                check.due("of " + what, x.of(0, what), was);
            }
        }
    }

    private static void firstAndLastNumbers() {
        int[] slots = {3, 3, 3, 3, 24, 4, 1, 1};
        for (int what = 0; what < 8; what++) {
            BellTrees x = new BellTrees();
            x.tree(444);
            x.tree(444);
            x.tree(444);
            int at = x.of(0, what);
            for (int number = -1; number <= slots[what]; number++) {
                boolean may = number >= 0 && number < slots[what];
                check.due("of " + number + " " + what, x.of(number, what), may ? at : -1);
                check.due("mend " + number + " " + what, x.mend(number, what, 1 - Math.min(1, at)), may ? at : -1);
                check.due("of " + number + " " + what, x.of(number, what), may ? 1 - Math.min(1, at) : -1);
            }
            check.due("as many changes", x.count(3), slots[what]);
        }
    }

    private static void theHutNeedNotBeThere() {
        BellTrees x = new BellTrees();
        check.due("no tree at all", x.mend(0, 7, 7), 0);
        check.due("it stands", x.of(0, 7), 7);
        for (int t = 0; t < 7; t++) {
            x.tree(195);
        }
        x.path(6);
        check.due("not there yet", x.of(6, 10), 9);
        check.due("far from nowhere", x.sound(0, 0, 0), -1);
        x.mend(0, 4, 0);
        x.mend(6, 1, 9);
        check.due("9 is not more than 9", x.sound(0, 6, 0), -1);
        check.due("the eighth", x.tree(195), 7);
        check.due("it is there now", x.of(7, 10), 0);
        check.due("no way yet", x.of(6, 10), 9);
        x.path(67);
        check.due("a way", x.of(6, 10), 1);
        check.due("a way", x.of(0, 10), 2);
    }

    private static void farAtItsBounds() {
        BellTrees x = new BellTrees();
        for (int t = 0; t < 8; t++) {
            x.tree(195);
        }
        for (int t = 0; t < 7; t++) {
            check.due("no way yet", x.of(t + 1, 10), 9);
            x.path(11 * t + 1);
            check.due("the end of the row", x.of(t + 1, 10), t + 1);
        }
        x.mend(0, 7, 7);
        for (int t = 0; t < 8; t++) {
            check.due("from the other end", x.of(t, 10), 7 - t);
        }
        x.path(70);
        for (int t = 0; t < 8; t++) {
            check.due("in a ring", x.of(t, 10), Math.min(7 - t, t + 1));
        }
        check.due("of none", x.of(8, 10), -1);
        check.due("of none", x.of(-1, 10), -1);
    }

    private static void farWithoutABell() {
        BellTrees x = new BellTrees();
        x.tree(195);
        x.tree(195);
        x.tree(195);
        x.path(1);
        x.path(12);
        x.mend(0, 3, 0);
        x.mend(1, 3, 0);
        check.due("the hut's tree without its bell", x.of(0, 10), 0);
        check.due("by a tree without its bell", x.of(2, 10), 2);
        check.due("and heard", x.sound(0, 2, 0), 1);
    }

    private static void heardAtItsBounds() {
        BellTrees x = new BellTrees();
        for (int t = 0; t < 8; t++) {
            x.tree(195);
        }
        Check.bytes(x, 0, 7, 7, 7, 7, 7, 7, 7, 7, 7, 7, 7, 7, 7, 7, 7, 7, 7, 7, 7, 7, 7, 7, 7, 7, 7);
        x.mend(0, 7, 7);
        check.due("24 minutes", x.walk(0, 0), 24);
        check.due("heard at the last", x.of(7, 11), 24);
        check.due("not at the first", x.of(0, 11), 0);
        check.due("no ninth", x.of(8, 11), -1);
        check.due("one walk", x.of(0, 12), 1);
        check.due("number 0 alone", x.of(7, 12), -1);
    }
}
