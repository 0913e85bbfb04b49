import java.util.ArrayList;
import java.util.List;
import java.util.Random;

/** Promises 18 to 25: walkers drawn, years, walks in deed, judging, images, undoing. */
public final class YearsTest {
    private static final Check check = new Check();
    private static final Random random = new Random(3);

    public static void main(String[] args) {
        drawnRefused();
        for (int turn = 0; turn < 200; turn++) {
            drawnByChance();
            yearsByChance();
        }
        yearsRefused();
        yearsAreNoChanges();
        walksInDeed();
        judging();
        images();
        undone();
        doneAgain();
        fortyAreKept();
        theSameIsNoChange();
        theSameDropsNoChange();
        theSameAfterYears();
        changesOfEverySort();
        for (int turn = 0; turn < 100; turn++) {
            changesByChance();
        }
        check.end();
    }

    private static void drawnRefused() {
        BellTrees x = new BellTrees();
        check.due("no trees", x.drawn(5, 30, -1), -5);
        check.due("no trees", x.drawn(5, 330, -2), -5);
        check.due("bad ahead of no trees", x.drawn(5, 31, -1), -1);
        check.due("bad ahead of no trees", x.drawn(5, 30, 0), -1);
        x.tree(195);
        for (int kn : new int[] {-1, 0, 31, 99, 100, 131, 401, 400, 430, -101, Integer.MAX_VALUE, Integer.MIN_VALUE}) {
            check.due("drawn kn " + kn, x.drawn(5, kn, -1), -1);
        }
        for (int what : new int[] {-3, 1, 7, 8, Integer.MAX_VALUE, Integer.MIN_VALUE}) {
            check.due("drawn what " + what, x.drawn(5, 1, what), -1);
        }
        check.due("one alone", x.drawn(5, 330, -1), 720);
        check.due("one alone", x.drawn(5, 330, -2), 0);
        check.due("one alone", x.drawn(5, 330, 0), 720);
        x.mend(0, 3, 0);
        check.due("without its bell", x.drawn(5, 330, -1), 0);
        check.due("without its bell", x.drawn(5, 330, -2), 30);
        check.due("in thought", x.of(0, 11), 0);
        check.due("in thought", x.of(0, 12), 0);
    }

    private static BellTrees someForest(int trees) {
        BellTrees x = new BellTrees();
        for (int t = 0; t < trees; t++) {
            x.tree(100 * random.nextInt(10) + 10 * random.nextInt(10) + random.nextInt(9));
        }
        for (int path = random.nextInt(2 * trees); path > 0; path--) {
            x.path(10 * random.nextInt(trees) + random.nextInt(trees));
        }
        return x;
    }

    private static void drawnByChance() {
        int trees = random.nextInt(8) + 1;
        BellTrees x = new BellTrees();
        boolean[][] near = new boolean[trees][trees];
        for (int t = 0; t < trees; t++) {
            x.tree(100 * random.nextInt(10) + 10 * random.nextInt(10) + random.nextInt(9));
        }
        for (int path = random.nextInt(2 * trees); path > 0; path--) {
            int a = random.nextInt(trees);
            int b = random.nextInt(trees);
            if (x.path(10 * a + b) > 0) {
                near[a][b] = true;
                near[b][a] = true;
            }
        }
        for (int minute = 0; minute < 5; minute++) {
            x.mend(random.nextInt(24), 4, random.nextInt(10));
        }
        for (int of = 0; of < 4; of++) {
            x.mend(of, 5, random.nextInt(10));
        }
        int sort = random.nextInt(4);
        int seed = random.nextInt();
        int n = random.nextInt(30) + 1;
        int[][] sounds = new int[trees][24];
        for (int t = 0; t < trees; t++) {
            for (int m = 0; m < 24; m++) {
                sounds[t][m] = x.sound(sort, t, m);
            }
        }
        x.sound((sort + 1) % 4, 0, 0);
        int z = seed;
        int together = 0;
        int without = 0;
        int[] heard = new int[trees];
        for (int walker = 0; walker < n; walker++) {
            z = z * 1103515245 + 12345;
            int at = (z >>> 8) % trees;
            int own = sounds[at][0] >= 0 ? 1 : 0;
            heard[at] += own;
            for (int m = 1; m < 24; m++) {
                int[] to = java.util.stream.IntStream.range(0, trees).filter(neighbours(near[at])).toArray();
                z = z * 1103515245 + 12345;
                int lot = (z >>> 8) % (to.length + 1);
                at = lot == 0 ? at : to[lot - 1];
                own += sounds[at][m] >= 0 ? 1 : 0;
                heard[at] += sounds[at][m] >= 0 ? 1 : 0;
            }
            together += own;
            without += own == 0 ? 1 : 0;
        }
        check.due("drawn together", x.drawn(seed, 100 * sort + n, -1), together);
        check.due("drawn without", x.drawn(seed, 100 * sort + n, -2), without);
        for (int t = 0; t < trees; t++) {
            check.due("drawn at " + t, x.drawn(seed, 100 * sort + n, t), heard[t]);
        }
        check.due("drawn above", x.drawn(seed, 100 * sort + n, trees), -1);
    }

    private static java.util.function.IntPredicate neighbours(boolean[] near) {
        return t -> near[t];
    }

    private static void yearsRefused() {
        BellTrees x = someForest(3);
        int pitch = x.of(0, 0) + x.of(1, 0) + x.of(2, 0);
        for (int n : new int[] {-1, 0, 31, Integer.MAX_VALUE, Integer.MIN_VALUE}) {
            check.due("years " + n, x.years(1, n), -1);
        }
        check.due("nothing came of it", x.of(0, 0) + x.of(1, 0) + x.of(2, 0), pitch);
        check.due("no trees", new BellTrees().years(7, 30), 0);
    }

    private static void yearsByChance() {
        int trees = random.nextInt(8) + 1;
        BellTrees x = someForest(trees);
        int[] pitch = new int[trees];
        int[] hangs = new int[trees];
        int[] loud = new int[trees];
        for (int t = 0; t < trees; t++) {
            pitch[t] = x.of(t, 0);
            loud[t] = x.of(t, 1);
            hangs[t] = x.of(t, 2);
        }
        for (int again = 0; again < 3; again++) {
            int seed = random.nextInt();
            int n = random.nextInt(30) + 1;
            int z = seed;
            for (int i = 0; i < n * trees; i++) {
                z = z * 1103515245 + 12345;
                int lot = (z >>> 8) % 12;
                if (lot == 0 && pitch[i % trees] > 0) {
                    pitch[i % trees]--;
                }
                if (lot == 11 && hangs[i % trees] < 9) {
                    hangs[i % trees]++;
                }
            }
            int sum = 0;
            for (int p : pitch) {
                sum += p;
            }
            check.due("years", x.years(seed, n), sum);
            for (int t = 0; t < trees; t++) {
                check.due("pitch", x.of(t, 0), pitch[t]);
                check.due("loud", x.of(t, 1), loud[t]);
                check.due("hangs", x.of(t, 2), hangs[t]);
            }
        }
    }

    private static void yearsAreNoChanges() {
        BellTrees x = new BellTrees();
        x.tree(999);
        x.mend(0, 0, 8);
        x.mend(0, 0, 7);
        x.undo();
        check.holds("some of the pitch goes", x.years(4, 30) < 8);
        check.due("years are no changes", x.count(3), 1);
        check.due("what was undone before can be done again", x.redo(), 0);
        check.due("done again", x.of(0, 0), 7);
        x.years(4, 30);
        check.due("undone", x.undo(), 1);
        check.due("as it was ahead of the change", x.of(0, 0), 8);
        check.due("undone", x.undo(), 0);
        check.due("as it was ahead of the change", x.of(0, 0), 9);
    }

    private static void walksInDeed() {
        BellTrees x = new BellTrees();
        x.tree(190);
        x.tree(295);
        x.path(1);
        x.mend(2, 5, 3);
        x.mend(4, 4, 9);
        x.mend(0, 1, 3);
        Check.bytes(x, 0, 0, 1, 1, 0, 0, 1);
        check.due("of the lower sort", x.walk(2, 0), 2);
        check.due("at the first", x.of(0, 11), 2);
        check.due("at the second", x.of(1, 11), 0);
        check.due("of another sort", x.walk(0, 0), 5);
        check.due("at the first", x.of(0, 11), 4);
        check.due("at the second", x.of(1, 11), 3);
        check.due("walks", x.of(0, 12), 2);
        x.row(0, 0, 0);
        check.due("a walk of no minute", x.walk(0, 0), 0);
        check.due("walks", x.of(0, 12), 3);
        check.due("no tree can be heard by undoing", x.undo(), 2);
        check.due("what was heard stays", x.of(0, 11), 4);
    }

    private static void judging() {
        BellTrees x = new BellTrees();
        x.tree(190);
        x.tree(290);
        x.path(1);
        Check.bytes(x, 0, 0, 1, 0);
        Check.bytes(x, 1, 1, 2, 1);
        check.due("all is so", x.judge(0, 1), -2);
        x.mend(1, 4, 9);
        x.mend(1, 1, 4);
        check.due("the wind is in the way", x.judge(0, 1), 1);
        check.due("it can be gone", x.gone(0, 1), -2);
        x.put(1, 1, -1);
        check.due("all is so", x.judge(0, 1), -2);
        x.put(1, 2, 2);
        check.due("not the last", x.judge(3, 1), 2);
        Check.bytes(x, 1, 1);
        check.due("for as long as both", x.judge(3, 1), -2);
        check.due("a walk judged is none in deed", x.of(0, 12), 0);
    }

    private static void images() {
        BellTrees x = new BellTrees();
        check.due("no image", x.back(), -5);
        x.tree(195);
        x.tree(295);
        x.path(1);
        Check.bytes(x, 0, 0, 1, 0);
        x.walk(0, 0);
        check.due("image", x.image(), 2);
        x.walk(0, 0);
        x.tree(395);
        x.path(12);
        Check.bytes(x, 0, 2, 2);
        x.walk(0, 0);
        for (int t = 0; t < 3; t++) {
            x.mend(t, 0, 9);
            x.mend(t, 1, 8);
            x.mend(t, 2, 7);
            x.mend(t, 3, 0);
        }
        x.mend(0, 6, 1);
        x.mend(0, 7, 1);
        x.mend(0, 4, 1);
        x.mend(0, 5, 1);
        for (int again = 0; again < 2; again++) {
            check.due("back", x.back(), 2);
            int[] due = {1, 8, 5, 1, 2, 8, 5, 1, 9, 8, 7, 0};
            for (int i = 0; i < 12; i++) {
                check.due("laid back", x.of(i / 4, i % 4), due[i]);
            }
            check.due("heard", x.of(0, 11), 2);
            check.due("heard", x.of(1, 11), 1);
            check.due("heard of one that came since", x.of(2, 11), 0);
            check.due("walks", x.of(0, 12), 1);
            check.due("snow stays", x.of(0, 6), 1);
            check.due("the hut stays", x.of(0, 7), 1);
            check.due("wind stays", x.of(0, 4), 1);
            check.due("height stays", x.of(0, 5), 1);
            check.due("trees stay", x.count(0), 3);
            check.due("paths stay", x.count(1), 2);
            check.due("changes stay", x.count(3), 16);
            x.mend(0, 5, 5);
            x.walk(0, 0);
            x.mend(0, 0, 0);
            x.undo();
            x.undo();
        }
        check.due("a newer image", x.image(), 3);
        x.mend(2, 0, 4);
        check.due("back to it", x.back(), 3);
        check.due("pitch of the third", x.of(2, 0), 9);
        BellTrees y = new BellTrees();
        check.due("an image of none", y.image(), 0);
        y.tree(195);
        Check.bytes(y, 0, 0);
        y.walk(0, 0);
        check.due("back to none", y.back(), 0);
        check.due("not heard", y.of(0, 11), 0);
        check.due("no walks", y.of(0, 12), 0);
        check.due("the tree stays", y.of(0, 0), 1);
    }

    private static void undone() {
        BellTrees x = new BellTrees();
        check.due("none", x.undo(), -5);
        check.due("none", x.redo(), -5);
        x.tree(555);
        x.mend(0, 0, 6);
        x.mend(0, 0, 7);
        x.mend(0, 0, 11);
        x.mend(0, 3, 0);
        check.due("three", x.count(3), 3);
        check.due("undone", x.undo(), 2);
        check.due("there", x.of(0, 3), 1);
        check.due("undone", x.undo(), 1);
        check.due("pitch", x.of(0, 0), 6);
        check.due("undone", x.undo(), 0);
        check.due("pitch", x.of(0, 0), 5);
        check.due("none", x.undo(), -5);
        check.due("none may be undone", x.count(3), 0);
        check.due("pitch", x.of(0, 0), 5);
    }

    private static void doneAgain() {
        BellTrees x = new BellTrees();
        x.tree(555);
        for (int v = 0; v < 4; v++) {
            x.mend(0, 1, v);
        }
        check.due("none undone yet", x.redo(), -5);
        x.undo();
        x.undo();
        x.undo();
        check.due("loud", x.of(0, 1), 0);
        check.due("again", x.redo(), 2);
        check.due("loud", x.of(0, 1), 1);
        check.due("again", x.redo(), 1);
        check.due("loud", x.of(0, 1), 2);
        check.due("may be undone", x.count(3), 3);
        check.due("a refused one comes not behind", x.mend(0, 1, 10), -1);
        check.due("again", x.redo(), 0);
        check.due("loud", x.of(0, 1), 3);
        check.due("none", x.redo(), -5);
        x.undo();
        x.undo();
        x.mend(0, 2, 0);
        check.due("another came behind", x.redo(), -5);
        check.due("three", x.count(3), 3);
        check.due("hangs undone", x.undo(), 2);
        check.due("hangs", x.of(0, 2), 5);
        check.due("hangs again", x.redo(), 0);
        check.due("hangs", x.of(0, 2), 0);
    }

    private static void fortyAreKept() {
        BellTrees x = new BellTrees();
        x.tree(0);
        for (int i = 1; i <= 45; i++) {
            x.mend(0, i % 3, (i + 2) / 3 % 10);
            check.due("kept", x.count(3), Math.min(i, 40));
        }
        for (int left = 39; left >= 0; left--) {
            check.due("undone", x.undo(), left);
        }
        check.due("no more", x.undo(), -5);
        check.due("pitch of the fifth", x.of(0, 0), 1);
        check.due("loud of the fifth", x.of(0, 1), 2);
        check.due("hangs of the fifth", x.of(0, 2), 2);
        for (int left = 39; left >= 0; left--) {
            check.due("again", x.redo(), left);
        }
        check.due("no more", x.redo(), -5);
        check.due("pitch", x.of(0, 0), 5);
        check.due("loud", x.of(0, 1), 5);
        check.due("hangs", x.of(0, 2), 5);
        check.due("forty", x.count(3), 40);
    }

    /** What becomes what it was already is no CHANGE: not to be undone, and none that comes behind one. */
    private static void theSameIsNoChange() {
        int[][] slots = {{0, 0}, {0, 1}, {0, 2}, {0, 3}, {23, 4}, {3, 5}, {0, 6}, {0, 7}};
        for (int[] slot : slots) {
            BellTrees x = new BellTrees();
            x.tree(555);
            int was = x.of(slot[0], slot[1]);
            check.due("the same", x.mend(slot[0], slot[1], was), was);
            check.due("no change", x.count(3), 0);
            check.due("none to be undone", x.undo(), -5);
            check.due("another", x.mend(slot[0], slot[1], 1 - Math.min(was, 1)), was);
            check.due("the other again", x.mend(slot[0], slot[1], 1 - Math.min(was, 1)), 1 - Math.min(was, 1));
            check.due("one change", x.count(3), 1);
            check.due("undone", x.undo(), 0);
            check.due("as it was", x.of(slot[0], slot[1]), was);
            check.due("the same", x.mend(slot[0], slot[1], was), was);
            check.due("no other came behind", x.redo(), 0);
            check.due("done again", x.of(slot[0], slot[1]), 1 - Math.min(was, 1));
        }
    }

    private static void theSameDropsNoChange() {
        BellTrees x = new BellTrees();
        x.tree(0);
        for (int i = 1; i <= 40; i++) {
            x.mend(0, 0, i % 10);
        }
        x.mend(0, 0, 0);
        x.mend(0, 1, 0);
        for (int left = 39; left >= 0; left--) {
            check.due("undone", x.undo(), left);
            check.due("pitch", x.of(0, 0), left % 10);
        }
        check.due("no more", x.undo(), -5);
    }

    /** What stands now counts, not what the latest change left. */
    private static void theSameAfterYears() {
        BellTrees x = new BellTrees();
        x.tree(999);
        x.image();
        x.mend(0, 0, 8);
        x.back();
        check.due("what the image laid back", x.mend(0, 0, 9), 9);
        check.due("no change", x.count(3), 1);
        check.due("another again", x.mend(0, 0, 8), 9);
        check.due("a change", x.count(3), 2);
        x.years(4, 30);
        int pitch = x.of(0, 0);
        check.holds("some of the pitch goes", pitch < 8);
        check.due("what years left", x.mend(0, 0, pitch), pitch);
        check.due("no change", x.count(3), 2);
        check.due("what the change left", x.mend(0, 0, 8), pitch);
        check.due("a change", x.count(3), 3);
    }

    private static void changesOfEverySort() {
        BellTrees x = new BellTrees();
        x.tree(555);
        int[][] changes = {{0, 0, 1}, {0, 1, 2}, {0, 2, 3}, {0, 3, 0}, {23, 4, 9}, {3, 5, 0}, {0, 6, 4}, {0, 7, 7}};
        int[] was = new int[8];
        for (int i = 0; i < 8; i++) {
            was[i] = x.mend(changes[i][0], changes[i][1], changes[i][2]);
        }
        for (int i = 7; i >= 0; i--) {
            check.due("undone", x.undo(), i);
            check.due("was", x.of(changes[i][0], changes[i][1]), was[i]);
        }
        for (int i = 0; i < 8; i++) {
            check.due("again", x.redo(), 7 - i);
            check.due("is", x.of(changes[i][0], changes[i][1]), changes[i][2]);
        }
    }

    /** Against a list that keeps number, what, before and after of each change. */
    private static void changesByChance() {
        BellTrees x = someForest(4);
        List<int[]> done = new ArrayList<>();
        List<int[]> undone = new ArrayList<>();
        for (int turn = 0; turn < 120; turn++) {
            int lot = random.nextInt(10);
            int[] change = null;
            if (lot == 0 || lot == 1 && turn > 90) {
                check.due("undo", x.undo(), done.isEmpty() ? -5 : done.size() - 1);
                if (!done.isEmpty()) {
                    change = done.remove(done.size() - 1);
                    undone.add(change);
                    check.due("undone", x.of(change[0], change[1]), change[2]);
                }
            } else if (lot < 4) {
                check.due("redo", x.redo(), undone.isEmpty() ? -5 : undone.size() - 1);
                if (!undone.isEmpty()) {
                    change = undone.remove(undone.size() - 1);
                    done.add(change);
                    check.due("done again", x.of(change[0], change[1]), change[3]);
                }
            } else {
                int what = random.nextInt(8);
                int number = random.nextInt(what == 4 ? 24 : what > 5 ? 1 : 4);
                change = new int[] {number, what, x.of(number, what), random.nextInt(what == 3 ? 2 : what == 7 ? 8 : 10)};
                check.due("mend", x.mend(number, what, change[3]), change[2]);
                if (change[2] != change[3]) {
                    done.add(change);
                    undone.clear();
                }
                if (done.size() > 40) {
                    done.remove(0);
                }
            }
            check.due("changes", x.count(3), done.size());
        }
        while (!done.isEmpty()) {
            int[] change = done.remove(done.size() - 1);
            check.due("undo", x.undo(), done.size());
            check.due("undone", x.of(change[0], change[1]), change[2]);
        }
        check.due("no more", x.undo(), -5);
    }
}
