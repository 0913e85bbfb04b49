import java.util.Random;

/** Calls with any arguments in any state: none throws, the same calls have the same answers, refused ones change nothing. */
public final class RandomCallsTest {
    private static final Check check = new Check();
    private static final int[] WILD = {-1, -2, -3, 8, 24, 25, 60, 61, 99, 100, 120, 256, 400, 999, 1000, 2323, Integer.MAX_VALUE,
        Integer.MAX_VALUE - 2, Integer.MIN_VALUE, Integer.MIN_VALUE + 1};
    private static final String SIGNS = "ldwpsk0159((()))!-+*/%<=>&|?;";

    /** Two objects get the same calls, but the other one none of those that are refused: their answers must stay alike. */
    public static void main(String[] args) {
        int refused = 0;
        for (int seed = 0; seed < 4000; seed++) {
            BellTrees x = new BellTrees();
            BellTrees y = new BellTrees();
            if (seed % 2 == 0) {
                settle(x, new Random(seed));
                settle(y, new Random(seed));
            }
            for (int call = 0; call < 230; call++) {
                long choice = (1000L * seed + call) * 0x9E3779B97F4A7C15L;
                long answer = someCall(x, new Random(choice));
                if (isRefusal(answer)) {
                    refused++;
                } else {
                    check.due("seed " + seed + " call " + call, someCall(y, new Random(choice)), answer);
                }
            }
            same("seed " + seed, x, y);
        }
        check.holds("some are refused", refused > 100000);
        check.end();
    }

    private static boolean isRefusal(long answer) {
        return answer == -1 || answer == -2 || answer == -3 || answer == -5 || answer <= -11 && answer >= -14
            || answer == BellTrees.VOID || answer == Long.MIN_VALUE;
    }

    private static void settle(BellTrees x, Random random) {
        for (int t = random.nextInt(8); t >= 0; t--) {
            x.tree(random.nextInt(1000));
        }
        for (int path = 0; path < 12; path++) {
            x.path(10 * random.nextInt(8) + random.nextInt(8));
        }
        for (int shelf = 0; shelf < 5; shelf++) {
            int n = random.nextInt(30);
            x.row(shelf, 0, n);
            int at = random.nextInt(8);
            for (int i = 0; i < n; i++) {
                x.put(shelf, i, shelf < 2 ? at : random.nextInt(11) - 1);
            }
        }
    }

    private static int any(Random random, int bound) {
        return random.nextInt(12) == 0 ? WILD[random.nextInt(WILD.length)] : random.nextInt(bound);
    }

    private static int pair(Random random, int first, int second) {
        return random.nextInt(12) == 0 ? any(random, 100) : 10 * random.nextInt(first) + random.nextInt(second);
    }

    private static int sortAndMinute(Random random) {
        int minute = random.nextInt(3) == 0 ? 99 : random.nextInt(12);
        return random.nextInt(12) == 0 ? any(random, 500) : 100 * random.nextInt(4) + minute;
    }

    private static long someCall(BellTrees x, Random r) {
        int what = r.nextInt(34);
        return what < 12 ? someOfTheFirst(x, r, what) : what < 24 ? someOfTheNext(x, r, what) : someOfTheLast(x, r, what);
    }

    private static long someOfTheFirst(BellTrees x, Random r, int what) {
        switch (what) {
            case 0:
                return x.tree(any(r, 1000));
            case 1:
                return x.trees(any(r, 6), any(r, 20), any(r, 9));
            case 2:
                return x.path(pair(r, 8, 8));
            case 3:
                return x.mend(any(r, 8), any(r, 8), any(r, 10));
            case 4:
                return x.of(any(r, 8), any(r, 13));
            case 5:
                return x.feed(r.nextInt(20) == 0 ? any(r, 256) : SIGNS.charAt(r.nextInt(SIGNS.length())));
            case 6:
                return r.nextInt(4) == 0 ? Check.law(x, r.nextBoolean() ? "l>w" : "0?p;d<5|s") : x.law();
            case 7:
                return x.sound(any(r, 4), any(r, 8), any(r, 24));
            case 8:
                return x.fits(any(r, 6), sortAndMinute(r));
            case 9:
                return x.canBe(any(r, 6), sortAndMinute(r));
            case 10:
                return x.twoAtOnce(any(r, 6), pair(r, 4, 4), any(r, 2));
            default:
                int a = r.nextInt(24);
                return x.least(any(r, 400), r.nextInt(9) == 0 ? any(r, 3000) : 100 * a + r.nextInt(24), a + r.nextInt(5) - 1);
        }
    }

    private static long someOfTheNext(BellTrees x, Random r, int what) {
        switch (what) {
            case 12:
                return x.gone(any(r, 4), pair(r, 6, 6));
            case 13:
                return x.apart(pair(r, 4, 4), pair(r, 6, 6));
            case 14:
                return x.enough(any(r, 4), any(r, 5));
            case 15:
                return x.tuned(any(r, 2));
            case 16:
                return x.drawn(r.nextInt(), 100 * any(r, 4) + any(r, 31), r.nextInt(10) - 2);
            case 17:
                return x.years(r.nextInt(), any(r, 31));
            case 18:
                return x.walk(any(r, 4), any(r, 6));
            case 19:
                return x.judge(any(r, 4), pair(r, 6, 6));
            case 20:
                return x.image();
            case 21:
                return x.back();
            case 22:
                return x.undo();
            default:
                return x.redo();
        }
    }

    private static long someOfTheLast(BellTrees x, Random r, int what) {
        switch (what) {
            case 24:
                return x.body(any(r, 8));
            case 25:
            case 26:
                return x.act(any(r, 12), any(r, 4), r.nextInt()) & 0xff;
            case 27:
                return x.trace(any(r, 24));
            case 28:
                return x.keep(any(r, 6), any(r, 20) - 1);
            case 29:
                return x.row(any(r, 6), r.nextInt(3) == 0 ? any(r, 5) : 0, any(r, 61));
            case 30:
                return x.put(any(r, 6), any(r, 30), r.nextInt(5) == 0 ? r.nextLong() : r.nextInt(8));
            case 31:
                return x.element(any(r, 6), any(r, 60));
            case 32:
                return x.shift(any(r, 6), any(r, 30), any(r, 6), any(r, 30), any(r, 20));
            default:
                return r.nextBoolean() ? x.taken(any(r, 6), any(r, 8)) : x.count(any(r, 6));
        }
    }

    private static void same(String run, BellTrees x, BellTrees y) {
        for (int what = 0; what < 6; what++) {
            check.due(run + " count " + what, x.count(what), y.count(what));
        }
        for (int t = 0; t < 8; t++) {
            for (int what = 0; what < 4; what++) {
                check.due(run + " of tree " + t, x.of(t, what), y.of(t, what));
            }
            check.due(run + " sound at " + t, x.sound(t % 4, t, 3 * t), y.sound(t % 4, t, 3 * t));
        }
    }
}
