import java.util.ArrayList;
import java.util.List;
import java.util.Random;

/** Promises 10 to 18 and 21: walks that fit, and what is asked of them, against all walks tried one by one. */
public final class WalksTest {
    private static final Check check = new Check();
    private static final Random random = new Random(11);

    public static void main(String[] args) {
        refusals();
        booksOfUnlikeLengths();
        manyFit();
        silentOnes();
        leastByHand();
        walksThatAreNone();
        longRows();
        enoughByHand();
        tunedByHand();
        for (int turn = 0; turn < 1500; turn++) {
            byChance();
        }
        check.end();
    }

    // ---- by hand

    private static BellTrees three() {
        BellTrees x = new BellTrees();
        x.tree(190);
        x.tree(290);
        x.tree(195);
        x.path(1);
        x.path(12);
        x.mend(1, 5, 0);
        return x;
    }

    private static void refusals() {
        BellTrees x = three();
        Check.bytes(x, 0, 1, 2);
        Check.bytes(x, 1, 0, 1);
        Check.bytes(x, 2, 0, 2);
        x.row(3, 1, 2);
        x.body(0);
        x.keep(4, 0);
        for (int shelf : new int[] {-1, 6, Integer.MAX_VALUE, Integer.MIN_VALUE}) {
            check.due("fits shelf", x.fits(shelf, 99), -1);
            check.due("canBe shelf", x.canBe(shelf, 0), -1);
            check.due("twoAtOnce shelf", x.twoAtOnce(shelf, 0, 0), -1);
            check.due("walk shelf", x.walk(0, shelf), -1);
        }
        for (int sm : new int[] {-1, -99, -100, 400, 499, 24, 50, 98, 2, 23, Integer.MAX_VALUE, Integer.MIN_VALUE}) {
            check.due("fits sm " + sm, x.fits(0, sm), -1);
            check.due("canBe sm " + sm, x.canBe(0, sm), -1);
        }
        check.due("canBe 99", x.canBe(0, 99), -1);
        check.due("canBe 399", x.canBe(0, 399), -1);
        check.due("fits 399", x.fits(0, 399), 2);
        check.due("nothing", x.fits(5, 1), -11);
        check.due("nothing, a minute of some book", x.fits(5, 23), -11);
        check.due("bad ahead of nothing", x.fits(5, 24), -1);
        check.due("nothing", x.canBe(5, 1), -11);
        check.due("nothing", x.twoAtOnce(5, 0, 0), -11);
        for (int shelf = 3; shelf <= 4; shelf++) {
            check.due("no bytes", x.fits(shelf, 99), -12);
            check.due("no bytes", x.fits(shelf, 5), -12);
            check.due("no bytes", x.canBe(shelf, 0), -12);
            check.due("no bytes", x.twoAtOnce(shelf, 0, 1), -12);
            check.due("no bytes", x.walk(0, shelf), -12);
            check.due("gone", x.gone(0, 10 * shelf), -12);
            check.due("gone", x.gone(0, 10 + shelf), -12);
            check.due("gone, the other is nothing", x.gone(0, 10 * shelf + 5), -11);
            check.due("gone, the other is nothing", x.gone(0, 50 + shelf), -11);
            check.due("judge", x.judge(0, 10 * shelf), -12);
            check.due("judge", x.judge(0, 10 + shelf), -12);
            check.due("judge, the other is nothing", x.judge(0, 50 + shelf), -11);
            check.due("apart", x.apart(0, 10 * shelf + 1), -12);
            check.due("apart", x.apart(0, 10 + shelf), -12);
            check.due("apart, the other is nothing", x.apart(0, 10 * shelf + 5), -11);
        }
        for (int kk : new int[] {-1, 4, 40, 44, 14, 100, Integer.MAX_VALUE, Integer.MIN_VALUE}) {
            check.due("twoAtOnce kk", x.twoAtOnce(0, kk, 0), -1);
            check.due("apart kk", x.apart(kk, 11), -1);
        }
        check.due("twoAtOnce what", x.twoAtOnce(0, 0, 2), -1);
        check.due("twoAtOnce what", x.twoAtOnce(0, 0, -1), -1);
        for (int pair : new int[] {-1, 6, 60, 16, 61, 100, Integer.MAX_VALUE, Integer.MIN_VALUE}) {
            check.due("gone wb", x.gone(0, pair), -1);
            check.due("judge wb", x.judge(0, pair), -1);
            check.due("apart ww", x.apart(0, pair), -1);
        }
        for (int sort : new int[] {-1, 4, Integer.MAX_VALUE, Integer.MIN_VALUE}) {
            check.due("gone sort", x.gone(sort, 10), -1);
            check.due("judge sort", x.judge(sort, 10), -1);
            check.due("walk sort", x.walk(sort, 1), -1);
            check.due("enough sort", x.enough(sort, 1), -1);
        }
        check.due("no walk", x.gone(0, 20), -5);
        check.due("no walk", x.judge(0, 20), -5);
        check.due("no walk", x.walk(0, 2), -5);
        check.due("no walk", x.apart(0, 21), -5);
        check.due("no walk", x.apart(0, 12), -5);
        check.due("a book that is no walk", x.gone(0, 12), -2);
        check.due("no kind ahead of no walk", x.gone(0, 23), -12);
        check.due("nothing ahead of no walk", x.judge(0, 25), -11);
        check.due("no walk refused leaves walks", x.of(0, 12), 0);
        check.due("enough n", x.enough(0, 0), -1);
        check.due("enough n", x.enough(0, 5), -1);
        check.due("enough of one", x.enough(0, 1), 2);
        check.due("enough no walk", x.enough(0, 3), -5);
        check.due("enough no kind", x.enough(0, 4), -12);
        x.keep(1, -1);
        check.due("enough nothing ahead of no kind", x.enough(0, 4), -11);
        check.due("tuned what", x.tuned(2), -1);
        check.due("tuned what", x.tuned(-1), -1);
    }

    private static void booksOfUnlikeLengths() {
        BellTrees x = three();
        x.row(0, 0, 0);
        check.due("none: 1", x.fits(0, 99), 1);
        check.due("no minute", x.fits(0, 0), -1);
        check.due("no minute", x.canBe(0, 0), -1);
        check.due("no minute", x.twoAtOnce(0, 1, 0), 0);
        Check.bytes(x, 0, 1, 1, 2, 1);
        check.due("two ways", x.fits(0, 99), 4);
        check.due("the first", x.fits(0, 0), 0);
        check.due("the first", x.fits(0, 1), 0);
        check.due("the first", x.fits(0, 2), 1);
        check.due("the first", x.fits(0, 3), 0);
        check.due("can be", x.canBe(0, 0), 5);
        check.due("can be", x.canBe(0, 1), 5);
        check.due("can be", x.canBe(0, 2), 2);
        check.due("can be", x.canBe(0, 3), 5);
        Check.bytes(x, 0, 1, 1, 1, 9);
        check.due("none fits", x.fits(0, 99), 0);
        check.due("none fits", x.fits(0, 1), -2);
        check.due("none fits", x.canBe(0, 0), -2);
        Check.bytes(x, 0, 1, 300);
        check.due("44 is no sound", x.fits(0, 99), 0);
        Check.bytes(x, 0, 1, -2);
        check.due("-2 is no sound", x.fits(0, 99), 0);
        int[] book = new int[60];
        for (int m = 0; m < 60; m++) {
            book[m] = m < 24 ? 2 : 77;
        }
        Check.bytes(x, 0, book);
        check.due("24 count", x.fits(0, 99), 1);
        check.due("the last of them", x.fits(0, 23), 1);
        check.due("no more", x.fits(0, 24), -1);
        check.due("no more", x.canBe(0, 24), -1);
        check.due("the last of them", x.canBe(0, 23), 2);
        Check.bytes(x, 1, 1, 1, 1, 1);
        check.due("judged for as long as both", x.judge(0, 10), -2);
        x.put(0, 3, 1);
        check.due("judged", x.judge(0, 10), 3);
    }

    private static void manyFit() {
        BellTrees x = new BellTrees();
        for (int t = 0; t < 8; t++) {
            x.tree(190);
        }
        for (int t = 0; t < 8; t++) {
            x.path(10 * t + (t + 1) % 8);
        }
        int[] book = new int[24];
        for (int m = 0; m < 24; m++) {
            book[m] = 1;
        }
        Check.law(x, "1");
        long ways = 8;
        for (int n = 1; n <= 24; n++) {
            Check.bytes(x, 0, java.util.Arrays.copyOf(book, n));
            check.due("ways of " + n, x.fits(0, 99), Math.min(999999999L, ways));
            check.due("the first of them", x.fits(0, n - 1), 0);
            check.due("can be", x.canBe(0, n - 1), 255);
            ways *= 3;
        }
        x.put(0, 23, 2);
        check.due("none of so many", x.fits(0, 99), 0);
        check.due("none of so many", x.canBe(0, 3), -2);
    }

    private static void silentOnes() {
        BellTrees x = three();
        Check.bytes(x, 0, -1, -1, 1, -1, 2);
        check.due("silence at the tree too high", x.fits(0, 199), 0);
        Check.bytes(x, 0, -1, -1, 2, -1, 2, 1);
        check.due("silence at the tree too high", x.fits(0, 199), 1);
        check.due("where", x.fits(0, 103), 2);
        check.due("none of the higher sort", x.fits(0, 99), 0);
        check.due("silence can be of the second alone", x.twoAtOnce(0, 1, 0), 3);
        check.due("the first such", x.twoAtOnce(0, 1, 1), 0);
        check.due("not the other way round", x.twoAtOnce(0, 10, 0), 0);
        check.due("not the other way round", x.twoAtOnce(0, 10, 1), -2);
        check.due("one sort twice", x.twoAtOnce(0, 11, 0), 0);
        Check.bytes(x, 0, 1, 2, 7, -1);
        check.due("the first such", x.twoAtOnce(0, 1, 1), 3);
        BellTrees y = new BellTrees();
        Check.bytes(y, 0, -1, 0);
        check.due("no trees", y.fits(0, 99), 0);
        check.due("no trees", y.canBe(0, 1), -2);
        check.due("no trees", y.twoAtOnce(0, 1, 0), 0);
        check.due("no trees", y.twoAtOnce(0, 1, 1), -2);
        check.due("no trees", y.least(0, 0, -1), -1);
        check.due("no trees", y.gone(0, 0), -5);
        check.due("no trees", y.judge(0, 0), -5);
        check.due("no trees", y.enough(0, 1), -5);
        y.row(0, 0, 0);
        check.due("no trees, no minute", y.fits(0, 99), 1);
        check.due("no trees, a walk of no minute", y.judge(0, 0), -2);
        check.due("no trees, a walk of no minute", y.gone(0, 0), 0);
        check.due("no trees, a walk of no minute", y.enough(0, 1), -2);
    }

    private static void leastByHand() {
        BellTrees x = three();
        for (int sft : new int[] {-1, 400, 30, 3, 33, 199, Integer.MAX_VALUE, Integer.MIN_VALUE}) {
            check.due("least sft " + sft, x.least(sft, 5, -1), -1);
        }
        for (int ab : new int[] {-1, 24, 99, 2400, 2423, 100, 503, 2322, Integer.MAX_VALUE, Integer.MIN_VALUE}) {
            check.due("least ab " + ab, x.least(0, ab, -1), -1);
        }
        for (int at : new int[] {-2, 1, 6, 24, Integer.MAX_VALUE, Integer.MIN_VALUE}) {
            check.due("least at " + at, x.least(0, 205, at), -1);
        }
        check.due("till the same minute", x.least(22, 2323, -1), 1);
        check.due("till the same minute", x.least(122, 2323, -1), 0);
        check.due("till the same minute", x.least(122, 2323, 23), 2);
        check.due("elsewhere in the same minute", x.least(1, 2323, -1), -2);
        check.due("elsewhere in the same minute", x.least(1, 2323, 23), -2);
        check.due("too far", x.least(2, 1, -1), -2);
        check.due("too far", x.least(2, 1, 0), -2);
        check.due("far enough", x.least(2, 2, -1), 3);
        check.due("far enough, for the lower sort", x.least(102, 2, -1), 2);
        check.due("it waits where nothing is heard", x.least(102, 20, -1), 2);
        check.due("there", x.least(102, 20, 1), 1);
        check.due("there", x.least(102, 20, 2), 2);
        check.due("to the silent tree and back", x.least(100, 1020, -1), 4);
        check.due("to the silent tree and back", x.least(100, 1020, 12), 2);
        check.due("and back", x.least(100, 1020, 19), 1);
        check.due("all that is heard alike: the first", x.least(1, 5, 4), 0);
        check.due("all that is heard alike: the first", x.least(1, 5, 5), 1);
    }

    private static void walksThatAreNone() {
        BellTrees x = three();
        int[][] none = {{3}, {-1}, {0, 2}, {0, 1, 2, 0}, {0, 0, 127}, {-128}};
        for (int[] row : none) {
            Check.bytes(x, 0, row);
            Check.bytes(x, 1, 0);
            check.due("walk", x.walk(0, 0), -5);
            check.due("judge", x.judge(0, 1), -5);
            check.due("gone", x.gone(0, 1), -5);
            check.due("apart", x.apart(0, 1), -5);
            check.due("apart", x.apart(0, 10), -5);
            check.due("enough", x.enough(0, 1), -5);
            check.due("enough", x.enough(0, 2), -5);
        }
        check.due("none in deed", x.of(0, 12), 0);
        check.due("none heard", x.of(0, 11), 0);
    }

    private static void longRows() {
        BellTrees x = three();
        int[] row = new int[60];
        for (int m = 0; m < 60; m++) {
            row[m] = m < 24 ? m % 2 : 0;
        }
        Check.bytes(x, 0, row);
        check.due("24 minutes", x.walk(0, 0), 24);
        check.due("heard", x.of(0, 11), 12);
        check.due("heard", x.of(1, 11), 12);
        x.put(0, 40, 99);
        check.due("what is behind does not count", x.walk(0, 0), 24);
        x.put(0, 23, 2);
        check.due("the last that counts", x.walk(0, 0), -5);
        check.due("walks", x.of(0, 12), 2);
    }

    private static void enoughByHand() {
        BellTrees x = three();
        Check.bytes(x, 0, 0, 1);
        Check.bytes(x, 1, 2, 1);
        check.due("one walk, the least bell", x.enough(0, 1), 1);
        check.due("alike with all, not with fewer", x.enough(0, 2), 3);
        x.mend(1, 3, 0);
        check.due("without the one between", x.enough(0, 2), -2);
        x.mend(1, 3, 1);
        x.mend(2, 0, 3);
        check.due("unlike now, but one is not enough", x.enough(0, 2), 3);
        Check.bytes(x, 1, 1, 1);
        check.due("one for both", x.enough(0, 2), 2);
        Check.bytes(x, 2, 0, 1);
        check.due("two that are one and the same", x.enough(0, 3), -2);
        x.row(2, 0, 0);
        check.due("one that is never heard", x.enough(0, 3), -2);
    }

    private static void tunedByHand() {
        BellTrees x = new BellTrees();
        for (int t = 0; t < 8; t++) {
            x.tree(500);
        }
        check.due("no paths", x.tuned(0), 0);
        check.due("no paths", x.tuned(1), 0);
        for (int t = 1; t < 8; t++) {
            x.path(70 + (t + 6) % 7);
        }
        check.due("a star", x.tuned(0), 1);
        check.due("a star", x.tuned(1), 128);
        x.path(1);
        check.due("a star with a triangle", x.tuned(0), 2);
        check.due("a star with a triangle", x.tuned(1), 129);
        x.path(23);
        check.due("two", x.tuned(0), 3);
        check.due("two", x.tuned(1), 128 + 4 + 1);
        x.mend(7, 0, 6);
        check.due("unlike the middle", x.tuned(1), 5);
        x.mend(0, 3, 0);
        check.due("there or not", x.tuned(1), 5);
        x.mend(0, 0, 4);
        check.due("one of them tuned", x.tuned(1), 4);
    }

    // ---- by chance, against all walks tried one by one

    /** A call by another SORT comes between, so that no answer can lean on what an earlier call worked out. */
    private static BellTrees disturbed(BellTrees x, int sort) {
        x.apart(10 * ((sort + 1) % 4) + (sort + 2) % 4, 0);
        x.fits(5, 100 * ((sort + 1) % 4) + 99);
        return x;
    }

    private static int[][] sounds(BellTrees x, int sort, int trees) {
        int[][] sounds = new int[trees][24];
        for (int t = 0; t < trees; t++) {
            for (int m = 0; m < 24; m++) {
                sounds[t][m] = m < 7 || m > 19 ? x.sound(sort, t, m) : -1;
            }
        }
        return sounds;
    }

    private static void tryAll(List<int[]> all, boolean[][] near, int[] walk, int at) {
        if (at == walk.length) {
            all.add(walk.clone());
            return;
        }
        for (int t = 0; t < near.length; t++) {
            if (at == 0 || near[walk[at - 1]][t]) {
                walk[at] = t;
                tryAll(all, near, walk, at + 1);
            }
        }
    }

    private static void byChance() {
        BellTrees x = new BellTrees();
        int trees = random.nextInt(4) + 2;
        boolean[][] near = new boolean[trees][trees];
        int[] pitch = new int[trees];
        boolean[] there = new boolean[trees];
        for (int t = 0; t < trees; t++) {
            pitch[t] = random.nextInt(3);
            x.tree(100 * pitch[t] + 10 * random.nextInt(10) + random.nextInt(7));
            near[t][t] = true;
            there[t] = true;
        }
        for (int path = random.nextInt(trees * 2); path > 0; path--) {
            int a = random.nextInt(trees);
            int b = random.nextInt(trees);
            if (x.path(10 * a + b) > 0) {
                near[a][b] = true;
                near[b][a] = true;
            }
        }
        if (random.nextInt(3) == 0) {
            int t = random.nextInt(trees);
            there[t] = false;
            x.mend(t, 3, 0);
        }
        if (random.nextBoolean()) {
            Check.law(x, random.nextBoolean() ? "1" : "w>3|l>4");
        }
        for (int minute = 0; minute < 6; minute++) {
            x.mend(minute, 4, random.nextInt(10));
        }
        int sort = random.nextInt(4);
        int other = random.nextInt(4);
        for (int of = 0; of < 4; of++) {
            x.mend(of, 5, of == sort ? 5 : random.nextInt(10));
        }
        int[][] sounds = sounds(x, sort, trees);
        int[][] others = sounds(x, other, trees);
        int length = random.nextInt(5) + 1;
        List<int[]> all = new ArrayList<>();
        tryAll(all, near, new int[length], 0);
        int[] book = someBook(all, sounds, length);
        Check.bytes(x, 5, book);
        fitting(x, sort, all, sounds, book);
        twoAtOnce(x, 10 * sort + other, sounds, others, book);
        least(x, sort, near, sounds);
        int[][] walks = new int[4][];
        for (int i = 0; i < 4; i++) {
            List<int[]> some = new ArrayList<>();
            tryAll(some, near, new int[random.nextInt(4) + 1], 0);
            walks[i] = some.get(random.nextInt(some.size()));
            Check.bytes(x, i, walks[i]);
        }
        judged(x, sort, walks[0], book, sounds);
        gone(x, sort, walks[0], book, sounds, there);
        apart(x, 10 * sort + other, walks, sounds, others);
        enough(x, sort, walks, sounds, there);
        tuned(x, near, pitch);
    }

    private static int[] someBook(List<int[]> all, int[][] sounds, int length) {
        int[] walk = all.get(random.nextInt(all.size()));
        int[] book = new int[length];
        for (int m = 0; m < length; m++) {
            book[m] = sounds[walk[m]][m];
        }
        if (random.nextInt(3) == 0) {
            book[random.nextInt(length)] = random.nextInt(5) - 1;
        }
        return book;
    }

    private static void fitting(BellTrees x, int sort, List<int[]> all, int[][] sounds, int[] book) {
        int many = 0;
        int[] first = null;
        int[] bits = new int[book.length];
        for (int[] walk : all) {
            boolean so = true;
            for (int m = 0; m < book.length; m++) {
                so &= sounds[walk[m]][m] == book[m];
            }
            if (so) {
                many++;
                first = first == null ? walk : first;
                for (int m = 0; m < book.length; m++) {
                    bits[m] |= 1 << walk[m];
                }
            }
        }
        check.due("fits", disturbed(x, sort).fits(5, 100 * sort + 99), many);
        for (int m = 0; m < book.length; m++) {
            check.due("fits at " + m, disturbed(x, sort).fits(5, 100 * sort + m), first == null ? -2 : first[m]);
            check.due("canBe at " + m, disturbed(x, sort).canBe(5, 100 * sort + m), first == null ? -2 : bits[m]);
        }
    }

    private static void twoAtOnce(BellTrees x, int kk, int[][] sounds, int[][] others, int[] book) {
        int many = 0;
        int first = -2;
        for (int m = book.length - 1; m >= 0; m--) {
            boolean one = false;
            boolean other = false;
            for (int t = 0; t < sounds.length; t++) {
                one |= sounds[t][m] == book[m];
                other |= others[t][m] == book[m];
            }
            if (!one && other) {
                many++;
                first = m;
            }
        }
        check.due("twoAtOnce", disturbed(x, kk / 10).twoAtOnce(5, kk, 0), many);
        check.due("twoAtOnce, the first", disturbed(x, kk / 10).twoAtOnce(5, kk, 1), first);
    }

    private static void least(BellTrees x, int sort, boolean[][] near, int[][] sounds) {
        int a = random.nextBoolean() ? random.nextInt(3) : 20;
        int b = a + random.nextInt(4);
        int from = random.nextInt(near.length);
        int to = random.nextInt(near.length);
        List<int[]> all = new ArrayList<>();
        tryAll(all, near, new int[b - a + 1], 0);
        int[] best = null;
        int fewest = 99;
        for (int[] walk : all) {
            int many = 0;
            for (int m = a; m <= b; m++) {
                many += sounds[walk[m - a]][m] >= 0 ? 1 : 0;
            }
            if (walk[0] == from && walk[b - a] == to && many < fewest) {
                fewest = many;
                best = walk;
            }
        }
        int sft = 100 * sort + 10 * from + to;
        check.due("least", disturbed(x, sort).least(sft, 100 * a + b, -1), best == null ? -2 : fewest);
        for (int m = a; m <= b; m++) {
            check.due("least at " + m, disturbed(x, sort).least(sft, 100 * a + b, m), best == null ? -2 : best[m - a]);
        }
    }

    private static int heard(int[][] sounds, int bells, int tree, int minute) {
        return (bells >> tree & 1) != 0 ? sounds[tree][minute] : -1;
    }

    private static void judged(BellTrees x, int sort, int[] walk, int[] book, int[][] sounds) {
        int due = -2;
        for (int m = Math.min(walk.length, book.length) - 1; m >= 0; m--) {
            due = sounds[walk[m]][m] != book[m] ? m : due;
        }
        check.due("judge", disturbed(x, sort).judge(sort, 5), due);
    }

    private static void gone(BellTrees x, int sort, int[] walk, int[] book, int[][] sounds, boolean[] there) {
        int best = -2;
        for (int bits = 0; bits < 1 << there.length; bits++) {
            boolean so = best == -2 || Integer.bitCount(bits) < Integer.bitCount(best);
            for (int t = 0; t < there.length; t++) {
                so &= (bits >> t & 1) == 0 || there[t];
            }
            for (int m = 0; m < Math.min(walk.length, book.length); m++) {
                so &= heard(sounds, ~bits, walk[m], m) == book[m];
            }
            best = so ? bits : best;
        }
        check.due("gone", disturbed(x, sort).gone(sort, 5), best);
    }

    private static void apart(BellTrees x, int kk, int[][] walks, int[][] sounds, int[][] others) {
        int due = -2;
        for (int m = Math.min(walks[1].length, walks[2].length) - 1; m >= 0; m--) {
            due = sounds[walks[1][m]][m] != others[walks[2][m]][m] ? m : due;
        }
        check.due("apart", disturbed(x, kk / 10).apart(kk, 12), due);
    }

    private static void enough(BellTrees x, int sort, int[][] walks, int[][] sounds, boolean[] there) {
        for (int n = 1; n <= 4; n++) {
            int best = -2;
            for (int bits = 0; bits < 1 << there.length; bits++) {
                boolean so = best == -2 || Integer.bitCount(bits) < Integer.bitCount(best);
                for (int t = 0; t < there.length; t++) {
                    so &= (bits >> t & 1) == 0 || there[t];
                }
                for (int i = 0; i < n && so; i++) {
                    boolean any = false;
                    for (int m = 0; m < walks[i].length; m++) {
                        any |= heard(sounds, bits, walks[i][m], m) >= 0;
                    }
                    so = any;
                    for (int j = 0; j < i; j++) {
                        boolean unlike = false;
                        for (int m = 0; m < Math.min(walks[i].length, walks[j].length); m++) {
                            unlike |= heard(sounds, bits, walks[i][m], m) != heard(sounds, bits, walks[j][m], m);
                        }
                        so &= unlike;
                    }
                }
                best = so ? bits : best;
            }
            check.due("enough of " + n, disturbed(x, sort).enough(sort, n), best);
        }
    }

    /** All other PITCHES tried for all TREES of the bits. */
    private static boolean canTune(boolean[][] near, int[] pitch, int[] tried, int bits, int at) {
        if (at == pitch.length) {
            return true;
        }
        for (int p = 0; p < 10; p++) {
            boolean so = (p != pitch[at]) == ((bits >> at & 1) != 0);
            for (int t = 0; t < at; t++) {
                so &= !near[at][t] || tried[t] != p;
            }
            tried[at] = p;
            if (so && canTune(near, pitch, tried, bits, at + 1)) {
                return true;
            }
        }
        return false;
    }

    private static void tuned(BellTrees x, boolean[][] near, int[] pitch) {
        int best = -1;
        for (int bits = 0; bits < 1 << pitch.length; bits++) {
            boolean fewer = best < 0 || Integer.bitCount(bits) < Integer.bitCount(best);
            if (fewer && canTune(near, pitch, new int[pitch.length], bits, 0)) {
                best = bits;
            }
        }
        check.due("tuned", x.tuned(0), Integer.bitCount(best));
        check.due("tuned, which", x.tuned(1), best);
    }
}
