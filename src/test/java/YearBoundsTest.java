import java.util.ArrayList;
import java.util.List;
import java.util.Random;

/** Promises 18 to 25 at their bounds: seeds that wrap, how many are drawn, years, images of none and of all, forty changes. */
public final class YearBoundsTest {
    private static final int[] SEEDS = {0, 1, -1, 255, 256, -256, 12345, -12345, 0x40000000, 0x7fffff00, Integer.MAX_VALUE,
        Integer.MAX_VALUE - 1, Integer.MIN_VALUE, Integer.MIN_VALUE + 1};
    private static final Check check = new Check();

    public static void main(String[] args) {
        howManyAreDrawn();
        whatIsAskedOfTheDrawn();
        for (int seed : SEEDS) {
            drawnBySeed(seed);
            yearsBySeed(seed);
        }
        theDrawnStay();
        howManyYears();
        yearsAtTheEnds();
        yearsLeaveTheRest();
        walksInDeedAtTheirBounds();
        theLastCall();
        judgedAtItsBounds();
        imagesOfNoneAndOfAll();
        imagesAndTreesThatCame();
        aNewerImage();
        imagesLeaveTheRest();
        noChanges();
        fortyChanges();
        doneAgainOrNot();
        whatComesBetween();
        for (int turn = 0; turn < 300; turn++) {
            new Model(turn).run();
        }
        check.end();
    }

    /** The next z as a number of 32 bits without a sign. */
    private static long next(long z) {
        return (z * 1103515245L + 12345L) & 0xffffffffL;
    }

    private static BellTrees loud(int trees) {
        BellTrees x = new BellTrees();
        for (int t = 0; t < trees; t++) {
            x.tree(100 * t + 95);
        }
        Check.law(x, "1");
        return x;
    }

    private static void howManyAreDrawn() {
        BellTrees x = loud(1);
        for (int sort = 0; sort < 4; sort++) {
            for (int n = 0; n < 100; n++) {
                boolean may = n >= 1 && n <= 30;
                check.due("n " + n + " of sort " + sort, x.drawn(5, 100 * sort + n, 0), may ? 24 * n : -1);
            }
            x = loud(1);
        }
        for (int kn : new int[] {-1, -30, -99, 400, 401, 430, 1001, Integer.MAX_VALUE, Integer.MIN_VALUE}) {
            check.due("kn " + kn, x.drawn(5, kn, -1), -1);
        }
    }

    private static void whatIsAskedOfTheDrawn() {
        for (int trees = 0; trees <= 8; trees++) {
            BellTrees x = loud(trees);
            for (int what = -4; what <= 9; what++) {
                int answer = x.drawn(77, 330, what);
                int due = what < -2 || what >= trees && what >= 0 ? -1 : trees == 0 ? -5 : 0;
                check.due("what " + what + " of " + trees, Math.min(0, answer), due);
            }
            if (trees > 0) {
                check.due("each minute", x.drawn(77, 330, -1), 720);
                check.due("none without", x.drawn(77, 330, -2), 0);
                Check.law(x, "0");
                check.due("no minute", x.drawn(77, 330, -1), 0);
                check.due("all without", x.drawn(77, 330, -2), 30);
                check.due("none at the last", x.drawn(77, 330, trees - 1), 0);
                check.due("one without", x.drawn(77, 301, -2), 1);
            }
        }
    }

    /** Eight trees, the first a neighbour of all; the neighbours go by their numbers, not as their paths came. */
    private static void drawnBySeed(int seed) {
        int[][] near = {{1, 2, 3, 4, 5, 6, 7}, {0, 2}, {0, 1}, {0}, {0, 7}, {0, 6}, {0, 5, 7}, {0, 4, 6}};
        BellTrees x = loud(8);
        for (int ab : new int[] {70, 76, 74, 60, 65, 5, 4, 30, 21, 20, 1}) {
            x.path(ab);
        }
        x.mend(3, 3, 0);
        long z = seed & 0xffffffffL;
        int[] heard = new int[8];
        int without = 0;
        for (int walker = 0; walker < 30; walker++) {
            z = next(z);
            int at = (int) ((z >> 8) % 8);
            int own = 0;
            for (int m = 0; m < 24; m++) {
                if (m > 0) {
                    z = next(z);
                    int lot = (int) ((z >> 8) % (near[at].length + 1));
                    at = lot == 0 ? at : near[at][lot - 1];
                }
                heard[at]++;
                own += at == 3 ? 0 : 1;
            }
            without += own == 0 ? 1 : 0;
        }
        check.due("at the silent one", x.drawn(seed, 30, 3), 0);
        for (int t = 0; t < 8; t++) {
            check.due("seed " + seed + " at " + t, x.drawn(seed, 30, t), t == 3 ? 0 : heard[t]);
        }
        check.due("seed " + seed + " together", x.drawn(seed, 30, -1), 720 - heard[3]);
        check.due("seed " + seed + " without", x.drawn(seed, 30, -2), without);
    }

    private static void theDrawnStay() {
        BellTrees x = loud(8);
        int at = (int) ((next(9) >> 8) % 8);
        for (int t = 0; t < 8; t++) {
            check.due("one without paths stays", x.drawn(9, 1, t), t == at ? 24 : 0);
        }
        x.mend(at, 3, 0);
        check.due("and is not heard", x.drawn(9, 1, -2), 1);
        check.due("and is not heard", x.drawn(9, 1, -1), 0);
        x.mend(at, 3, 1);
        x.mend(23, 4, 9);
        Check.law(x, "w<9");
        check.due("not in the last minute", x.drawn(9, 1, at), 23);
        check.due("but in others", x.drawn(9, 1, -2), 0);
    }

    private static void howManyYears() {
        for (int n = -1; n <= 32; n++) {
            BellTrees x = loud(2);
            boolean may = n >= 1 && n <= 30;
            int answer = x.years(5, n);
            check.due("years " + n, answer < 0 ? -1 : 0, may ? 0 : -1);
            check.due("the sum of all", x.of(0, 0) + x.of(1, 0), may ? answer : 1);
        }
        check.due("no trees", new BellTrees().years(5, 1), 0);
        check.due("no trees", new BellTrees().years(5, 31), -1);
    }

    private static void yearsBySeed(int seed) {
        for (int n : new int[] {1, 2, 29, 30}) {
            BellTrees x = new BellTrees();
            int[] pitch = {9, 5, 1, 0, 9};
            int[] hangs = {0, 5, 8, 9, 9};
            for (int t = 0; t < 5; t++) {
                x.tree(100 * pitch[t] + 40 + hangs[t]);
            }
            x.mend(4, 3, 0);
            long z = seed & 0xffffffffL;
            int sum = 0;
            for (int draw = 0; draw < 5 * n; draw++) {
                z = next(z);
                int lot = (int) ((z >> 8) % 12);
                int t = draw % 5;
                pitch[t] = lot == 0 && pitch[t] > 0 ? pitch[t] - 1 : pitch[t];
                hangs[t] = lot == 11 && hangs[t] < 9 ? hangs[t] + 1 : hangs[t];
            }
            for (int t = 0; t < 5; t++) {
                sum += pitch[t];
            }
            check.due("years " + n + " by " + seed, x.years(seed, n), sum);
            for (int t = 0; t < 5; t++) {
                check.due("PITCH", x.of(t, 0), pitch[t]);
                check.due("LOUD", x.of(t, 1), 4);
                check.due("HANGS", x.of(t, 2), hangs[t]);
                check.due("THERE", x.of(t, 3), t == 4 ? 0 : 1);
            }
        }
    }

    private static void yearsAtTheEnds() {
        BellTrees x = new BellTrees();
        for (int t = 0; t < 8; t++) {
            x.tree(t < 4 ? 9 : 999);
        }
        for (int i = 0; i < 40; i++) {
            int sum = x.years(31 * i, 30);
            int of = 0;
            for (int t = 0; t < 8; t++) {
                of += x.of(t, 0);
            }
            check.due("the sum", sum, of);
        }
        for (int t = 0; t < 8; t++) {
            check.due("PITCH is 0 at least", x.of(t, 0), 0);
            check.due("HANGS is 9 at most", x.of(t, 2), 9);
        }
    }

    private static void yearsLeaveTheRest() {
        BellTrees x = loud(8);
        x.mend(0, 6, 5);
        x.mend(1, 4, 7);
        x.mend(1, 5, 3);
        x.mend(0, 7, 4);
        x.undo();
        x.image();
        Check.bytes(x, 0, 3, 3);
        x.walk(0, 0);
        x.years(8, 30);
        check.due("snow", x.of(0, 6), 5);
        check.due("wind", x.of(1, 4), 7);
        check.due("height", x.of(1, 5), 3);
        check.due("heard", x.of(3, 11), 2);
        check.due("walks", x.of(0, 12), 1);
        check.due("changes", x.count(3), 3);
        check.due("what was undone", x.redo(), 0);
        check.due("the hut", x.of(0, 7), 4);
        check.due("the image", x.back(), 8);
        for (int t = 0; t < 8; t++) {
            check.due("PITCH", x.of(t, 0), t);
            check.due("HANGS", x.of(t, 2), 5);
        }
        BellTrees z = loud(1);
        z.mend(0, 0, 9);
        z.years(8, 30);
        int pitch = z.of(0, 0);
        check.holds("some of it goes", pitch < 9);
        check.due("the change is still the latest", z.undo(), 0);
        check.due("as it was ahead of the change", z.of(0, 0), 0);
    }

    private static void walksInDeedAtTheirBounds() {
        BellTrees x = loud(2);
        x.path(1);
        x.row(0, 0, 0);
        check.due("of no minutes", x.walk(0, 0), 0);
        check.due("it is one", x.of(0, 12), 1);
        Check.bytes(x, 0, 1);
        check.due("of one minute", x.walk(3, 0), 1);
        check.due("heard", x.of(1, 11), 1);
        Check.bytes(x, 0, 0, 1, 0, 1, 0, 1, 0, 1, 0, 1, 0, 1, 0, 1, 0, 1, 0, 1, 0, 1, 0, 1, 0, 1, 0, 1);
        check.due("26 elements", x.walk(0, 0), 24);
        check.due("heard", x.of(0, 11), 12);
        check.due("heard", x.of(1, 11), 13);
        x.mend(0, 3, 0);
        check.due("a silent tree", x.walk(0, 0), 12);
        check.due("heard no more", x.of(0, 11), 12);
        check.due("heard", x.of(1, 11), 25);
        check.due("walks", x.of(0, 12), 4);
        for (int i = 0; i < 300; i++) {
            x.walk(0, 0);
        }
        check.due("heard far more", x.of(1, 11), 25 + 3600);
        check.due("walks", x.of(0, 12), 304);
        BellTrees y = loud(2);
        y.path(1);
        Check.bytes(y, 0, 0, 1, 0, 1, 2);
        check.due("the last is no tree", y.walk(0, 0), -5);
        check.due("none of it is heard", y.of(0, 11), 0);
        check.due("none of it is heard", y.of(1, 11), 0);
        check.due("no walk", y.of(0, 12), 0);
    }

    /** An object is used for 512 calls; the last of them is answered as any other. */
    private static void theLastCall() {
        BellTrees x = new BellTrees();
        x.tree(195);
        x.row(0, 0, 24);
        for (int call = 3; call <= 511; call++) {
            check.due("call " + call, x.walk(0, 0), 24);
        }
        check.due("the 512th", x.of(0, 11), 509 * 24);
    }

    private static void judgedAtItsBounds() {
        BellTrees x = loud(1);
        int[] still = new int[24];
        Check.bytes(x, 0, still);
        for (int minute = 0; minute < 24; minute++) {
            Check.bytes(x, 1, java.util.Arrays.copyOf(still, minute + 1));
            check.due("all is so", x.judge(0, 1), -2);
            x.put(1, minute, -1);
            check.due("silence in the last", x.judge(0, 1), minute);
            x.put(1, 0, 1);
            check.due("another pitch in the first", x.judge(0, 1), 0);
            if (minute % 8 == 7) {
                x = loud(1);
                Check.bytes(x, 0, still);
            }
        }
        Check.bytes(x, 1, new int[60]);
        check.due("all is so", x.judge(0, 1), -2);
        x.put(1, 24, 1);
        check.due("behind the last minute", x.judge(0, 1), -2);
        check.due("no walk in deed", x.of(0, 12), 0);
    }

    private static void imagesOfNoneAndOfAll() {
        for (int trees = 0; trees <= 8; trees++) {
            BellTrees x = loud(trees);
            check.due("none yet", x.back(), -5);
            check.due("image of " + trees, x.image(), trees);
            for (int t = 0; t < trees; t++) {
                x.mend(t, 0, 9);
                x.mend(t, 2, 0);
                x.mend(t, 3, 0);
            }
            check.due("back", x.back(), trees);
            for (int t = 0; t < trees; t++) {
                check.due("PITCH", x.of(t, 0), t);
                check.due("HANGS", x.of(t, 2), 5);
                check.due("THERE", x.of(t, 3), 1);
            }
            check.due("back again", x.back(), trees);
            check.due("trees", x.count(0), trees);
        }
    }

    /** The trees that came since stay as they are but for HEARD, which is 0. */
    private static void imagesAndTreesThatCame() {
        for (int known = 0; known < 8; known++) {
            BellTrees x = loud(known);
            Check.bytes(x, 0, 0, 0);
            x.walk(0, 0);
            int walks = x.of(0, 12);
            x.image();
            for (int t = known; t < 8; t++) {
                x.tree(555);
                Check.bytes(x, 1, t);
                x.walk(0, 1);
                x.mend(t, 0, 6);
                x.mend(t, 2, 7);
                x.mend(t, 3, 0);
            }
            Check.bytes(x, 0, 0);
            x.mend(0, 5, 9);
            x.walk(0, 0);
            check.due("how many it knew", x.back(), known);
            check.due("trees", x.count(0), 8);
            check.due("walks", x.of(0, 12), walks);
            for (int t = 0; t < 8; t++) {
                check.due("PITCH of " + t, x.of(t, 0), t < known ? t : 6);
                check.due("LOUD of " + t, x.of(t, 1), t < known ? 9 : 5);
                check.due("HANGS of " + t, x.of(t, 2), t < known ? 5 : 7);
                check.due("THERE of " + t, x.of(t, 3), t < known ? 1 : 0);
                check.due("HEARD of " + t, x.of(t, 11), t == 0 && known > 0 ? 2 : 0);
            }
        }
    }

    private static void aNewerImage() {
        BellTrees x = loud(1);
        x.image();
        x.mend(0, 0, 4);
        x.tree(595);
        check.due("a newer one", x.image(), 2);
        x.mend(0, 0, 7);
        x.mend(1, 0, 7);
        check.due("back to the newer", x.back(), 2);
        check.due("PITCH", x.of(0, 0), 4);
        check.due("PITCH", x.of(1, 0), 5);
        x.mend(0, 0, 8);
        check.due("back again", x.back(), 2);
        check.due("PITCH", x.of(0, 0), 4);
        x.mend(0, 0, 8);
        check.due("a third as things stand", x.image(), 2);
        check.due("back to it", x.back(), 2);
        check.due("PITCH", x.of(0, 0), 8);
    }

    private static void imagesLeaveTheRest() {
        BellTrees x = loud(2);
        x.path(1);
        x.image();
        x.mend(0, 1, 3);
        x.mend(5, 4, 8);
        x.mend(2, 5, 7);
        x.mend(0, 6, 6);
        x.mend(0, 7, 1);
        x.mend(1, 0, 9);
        x.undo();
        Check.law(x, "0");
        check.due("back", x.back(), 2);
        check.due("LOUD", x.of(0, 1), 3);
        check.due("WIND", x.of(5, 4), 8);
        check.due("HEIGHT", x.of(2, 5), 7);
        check.due("SNOW", x.of(0, 6), 6);
        check.due("THE HUT", x.of(0, 7), 1);
        check.due("PATHS", x.count(1), 1);
        check.due("changes", x.count(3), 5);
        check.due("the law", x.sound(0, 0, 0), -1);
        check.due("what was undone", x.redo(), 0);
        check.due("it is done", x.of(1, 0), 9);
        check.due("back", x.back(), 2);
        check.due("it is laid back", x.of(1, 0), 1);
        check.due("the change can be undone", x.undo(), 5);
        check.due("as it was", x.of(1, 0), 1);
    }

    private static void noChanges() {
        BellTrees x = loud(2);
        x.path(1);
        x.years(3, 30);
        x.image();
        x.back();
        Check.bytes(x, 0, 0);
        x.walk(0, 0);
        x.mend(0, 3, 2);
        x.mend(0, 6, 0);
        check.due("none of these is a change", x.count(3), 0);
        check.due("nothing to undo", x.undo(), -5);
        check.due("nothing to do again", x.redo(), -5);
        x.mend(0, 6, 1);
        check.due("nothing to do again", x.redo(), -5);
        check.due("one", x.undo(), 0);
        check.due("no more", x.undo(), -5);
        check.due("again", x.redo(), 0);
        check.due("no more", x.redo(), -5);
        check.due("one", x.count(3), 1);
        check.due("it stands", x.of(0, 6), 1);
    }

    private static void fortyChanges() {
        for (int many : new int[] {1, 39, 40, 41, 42, 80, 81}) {
            BellTrees x = loud(1);
            for (int i = 1; i <= many; i++) {
                check.due("change", x.mend(0, 6, i % 10), (i - 1) % 10);
                check.due("may be undone", x.count(3), Math.min(40, i));
            }
            int kept = Math.min(40, many);
            for (int i = 1; i <= kept; i++) {
                check.due("undo of " + many, x.undo(), kept - i);
                check.due("SNOW", x.of(0, 6), (many - i) % 10);
            }
            check.due("no more", x.undo(), -5);
            check.due("SNOW", x.of(0, 6), (many - kept) % 10);
            for (int i = kept - 1; i >= 0; i--) {
                check.due("redo of " + many, x.redo(), i);
                check.due("SNOW", x.of(0, 6), (many - i) % 10);
            }
            check.due("no more", x.redo(), -5);
        }
    }

    private static void doneAgainOrNot() {
        for (int undone = 0; undone <= 40; undone++) {
            BellTrees x = loud(1);
            for (int i = 1; i <= 40; i++) {
                x.mend(0, 6, i % 10);
            }
            for (int i = 0; i < undone; i++) {
                x.undo();
            }
            int stands = (40 - undone) % 10;
            check.due("a refused one comes not behind", x.mend(0, 6, 10), -1);
            check.due("the same comes not behind", x.mend(0, 6, stands), stands);
            check.due("again", x.redo(), undone == 0 ? -5 : undone - 1);
            check.due("another", x.mend(0, 1, 5), 9);
            check.due("no more to do again", x.redo(), -5);
            check.due("may be undone", x.count(3), Math.min(40, 40 - Math.max(0, undone - 1) + 1));
            check.due("undone", x.undo(), Math.min(39, 40 - Math.max(0, undone - 1)));
            check.due("LOUD", x.of(0, 1), 9);
            check.due("again", x.redo(), 0);
            check.due("LOUD", x.of(0, 1), 5);
        }
    }

    /** Only another CHANGE comes behind those that are undone. */
    private static void whatComesBetween() {
        BellTrees x = loud(2);
        x.mend(0, 0, 5);
        x.mend(0, 0, 6);
        x.undo();
        x.tree(195);
        x.path(1);
        x.feed('1');
        x.law();
        Check.bytes(x, 0, 0, 1);
        x.walk(0, 0);
        x.image();
        x.back();
        x.body(0);
        x.act(0, 3, 1);
        x.years(2, 1);
        check.due("may be undone", x.count(3), 1);
        check.due("can still be done again", x.redo(), 0);
        check.due("PITCH", x.of(0, 0), 6);
        check.due("undone", x.undo(), 1);
        check.due("undone", x.undo(), 0);
        check.due("PITCH", x.of(0, 0), 0);
        check.due("the oldest again", x.redo(), 1);
        check.due("PITCH", x.of(0, 0), 5);
        check.due("another tree's change", x.mend(2, 3, 0), 1);
        check.due("no more", x.redo(), -5);
        check.due("two", x.count(3), 2);
    }

    /** What trees are, by another way to keep it: each change, year, walk and image by itself, in any order. */
    private static final class Model {
        private final Random random;
        private final BellTrees x = new BellTrees();
        private final int[][] of = new int[8][4];
        private final int[] heard = new int[8];
        private final List<int[]> done = new ArrayList<>();
        private final List<int[]> undone = new ArrayList<>();
        private int trees;
        private int walks;
        private int[] image;

        Model(int seed) {
            random = new Random(seed);
        }

        void run() {
            Check.law(x, "1");
            for (int sort = 0; sort < 4; sort++) {
                x.mend(sort, 5, 9);
                done.add(new int[] {-1, 0, 0, 0});
            }
            for (int turn = 0; turn < 60; turn++) {
                someCall(random.nextInt(10));
                int t = random.nextInt(8);
                for (int what = 0; what < 4; what++) {
                    check.due("of " + t + " " + what, x.of(t, what), t < trees ? of[t][what] : -1);
                }
                check.due("heard", x.of(t, 11), t < trees ? heard[t] : -1);
                check.due("changes", x.count(3), done.size());
            }
            check.due("walks", x.of(0, 12), walks);
        }

        private void someCall(int lot) {
            int t = random.nextInt(8);
            if (lot < 2) {
                mendSome(t, random.nextInt(4));
            } else if (lot == 2) {
                plant(random.nextInt(1000));
            } else if (lot == 3) {
                undo();
            } else if (lot == 4) {
                redo();
            } else if (lot == 5) {
                years(random.nextInt(), random.nextInt(30) + 1);
            } else if (lot == 6 && random.nextBoolean()) {
                keepImage();
            } else if (lot == 7) {
                back();
            } else {
                walk(t);
            }
        }

        private void mendSome(int t, int what) {
            int v = random.nextInt(what == 3 ? 2 : 4);
            check.due("mend", x.mend(t, what, v), t < trees ? of[t][what] : -1);
            if (t < trees && of[t][what] != v) {
                done.add(new int[] {t, what, of[t][what], v});
                undone.clear();
                of[t][what] = v;
            }
        }

        private void plant(int plh) {
            check.due("tree", x.tree(plh), trees < 8 ? trees : -3);
            if (trees < 8) {
                of[trees] = new int[] {plh / 100, plh / 10 % 10, plh % 10, 1};
                trees++;
            }
        }

        private void undo() {
            if (done.size() == 4) {
                return;
            }
            check.due("undo", x.undo(), done.size() - 1);
            int[] change = done.remove(done.size() - 1);
            undone.add(change);
            of[change[0]][change[1]] = change[2];
        }

        private void redo() {
            check.due("redo", x.redo(), undone.isEmpty() ? -5 : undone.size() - 1);
            if (!undone.isEmpty()) {
                int[] change = undone.remove(undone.size() - 1);
                done.add(change);
                of[change[0]][change[1]] = change[3];
            }
        }

        private void years(int seed, int n) {
            long z = seed & 0xffffffffL;
            for (int year = 0; year < n; year++) {
                for (int t = 0; t < trees; t++) {
                    z = next(z);
                    int lot = (int) ((z >> 8) % 12);
                    of[t][0] -= lot == 0 && of[t][0] > 0 ? 1 : 0;
                    of[t][2] += lot == 11 && of[t][2] < 9 ? 1 : 0;
                }
            }
            int sum = 0;
            for (int t = 0; t < trees; t++) {
                sum += of[t][0];
            }
            check.due("years", x.years(seed, n), sum);
        }

        private void keepImage() {
            image = new int[34];
            image[32] = trees;
            image[33] = walks;
            for (int t = 0; t < trees; t++) {
                image[4 * t] = of[t][0];
                image[4 * t + 1] = of[t][2];
                image[4 * t + 2] = of[t][3];
                image[4 * t + 3] = heard[t];
            }
            check.due("image", x.image(), trees);
        }

        private void back() {
            check.due("back", x.back(), image == null ? -5 : image[32]);
            if (image == null) {
                return;
            }
            walks = image[33];
            for (int t = 0; t < 8; t++) {
                boolean known = t < image[32];
                heard[t] = known ? image[4 * t + 3] : 0;
                if (known) {
                    of[t][0] = image[4 * t];
                    of[t][2] = image[4 * t + 1];
                    of[t][3] = image[4 * t + 2];
                }
            }
        }

        private void walk(int t) {
            Check.bytes(x, 0, t, t);
            boolean rings = t < trees && of[t][3] == 1;
            check.due("walk", x.walk(t % 4, 0), t >= trees ? -5 : rings ? 2 : 0);
            if (t < trees) {
                walks++;
                heard[t] += rings ? 2 : 0;
            }
        }
    }
}
