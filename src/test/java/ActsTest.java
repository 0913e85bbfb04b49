import java.util.ArrayList;
import java.util.List;
import java.util.Random;

/** Promises 26 to 35: bodies, acts, shelves, counts; the acts against classes that inherit from one another in deed. */
public final class ActsTest {
    private static final Check check = new Check();
    private static final Random random = new Random(9);
    private static final List<Integer> ran = new ArrayList<>();
    private static final int[] ABOVE = {-1, 0, 0, 2, 1, 3, 0, 6};

    interface Rings {
        int number();

        default int rings(int x) {
            ran.add(1);
            return x + number();
        }
    }

    interface Writes {
        int brushes(int x);

        int hears(int x);

        default int writes(int x) {
            ran.add(2);
            return brushes(x) - hears(1);
        }
    }

    static class Bell implements Rings, Writes {
        private final int n;

        Bell(int n) {
            this.n = n;
        }

        public int number() {
            return n;
        }

        public int brushes(int x) {
            ran.add(10);
            return rings(x) * 2;
        }

        public int hears(int x) {
            ran.add(11);
            return x ^ n;
        }
    }

    static class Deer extends Bell {
        Deer(int n) {
            super(n);
        }

        public int rings(int x) {
            ran.add(20);
            return super.rings(x) + 3;
        }
    }

    static class Gust extends Bell {
        Gust(int n) {
            super(n);
        }

        public int brushes(int x) {
            ran.add(30);
            return -super.brushes(x);
        }
    }

    static class Owl extends Gust {
        Owl(int n) {
            super(n);
        }

        public int hears(int x) {
            ran.add(40);
            return super.hears(x) * 3;
        }

        public int brushes(int x) {
            ran.add(41);
            return super.brushes(x + 1);
        }
    }

    static class Bear extends Deer {
        Bear(int n) {
            super(n);
        }

        public int writes(int x) {
            ran.add(50);
            return super.writes(x) ^ 5;
        }
    }

    static class Snowed extends Owl {
        Snowed(int n) {
            super(n);
        }

        public int hears(int x) {
            ran.add(60);
            return super.hears(x) - rings(2);
        }

        public int writes(int x) {
            ran.add(61);
            return super.writes(x) + 1;
        }
    }

    static class Stolen extends Bell {
        Stolen(int n) {
            super(n);
        }

        public int rings(int x) {
            ran.add(70);
            return super.rings(x) * 2;
        }
    }

    static class Cracked extends Stolen {
        Cracked(int n) {
            super(n);
        }

        public int brushes(int x) {
            ran.add(80);
            return super.brushes(x) + hears(2);
        }

        public int rings(int x) {
            ran.add(81);
            return super.rings(x) - 1;
        }
    }

    private static Bell made(int kind, int n) {
        switch (kind) {
            case 0:
                return new Bell(n);
            case 1:
                return new Deer(n);
            case 2:
                return new Gust(n);
            case 3:
                return new Owl(n);
            case 4:
                return new Bear(n);
            case 5:
                return new Snowed(n);
            case 6:
                return new Stolen(n);
            default:
                return new Cracked(n);
        }
    }

    private static int acted(Bell body, int act, int x) {
        return act == 0 ? body.rings(x) : act == 1 ? body.brushes(x) : act == 2 ? body.hears(x) : body.writes(x);
    }

    public static void main(String[] args) {
        bodies();
        acts();
        actsRefused();
        keeping();
        takenForKinds();
        rows();
        places();
        lowestBits();
        shifts();
        shiftsByChance();
        counts();
        check.end();
    }

    private static void bodies() {
        BellTrees x = new BellTrees();
        for (int kind : new int[] {-1, 8, Integer.MAX_VALUE, Integer.MIN_VALUE}) {
            check.due("no such kind", x.body(kind), -1);
        }
        for (int n = 0; n < 50; n++) {
            check.due("body", x.body(n % 8), n);
        }
        check.due("full", x.body(0), -3);
        check.due("bad ahead of full", x.body(8), -1);
        check.due("fifty", x.count(4), 50);
    }

    private static void acts() {
        for (int round = 0; round < 60; round++) {
            BellTrees x = new BellTrees();
            int[] kinds = new int[50];
            for (int n = 0; n < 50; n++) {
                kinds[n] = n < 8 ? n : random.nextInt(8);
                x.body(kinds[n]);
            }
            for (int turn = 0; turn < 16; turn++) {
                int n = round < 4 ? turn / 2 : random.nextInt(50);
                int act = round < 4 ? turn % 2 * 2 + round % 2 : random.nextInt(4);
                int with = turn % 3 == 0 ? random.nextInt() : random.nextInt(20) - 10;
                with = round % 10 == 5 ? Integer.MAX_VALUE : round % 10 == 6 ? Integer.MIN_VALUE : with;
                acted(x, n, kinds[n], act, with);
            }
        }
    }

    private static void acted(BellTrees x, int n, int kind, int act, int with) {
        ran.clear();
        int due = acted(made(kind, n), act, with);
        check.due("act " + act + " of kind " + kind, x.act(n, act, with), due);
        check.due("bodies that ran", x.count(5), ran.size());
        for (int i = 0; i < 24; i++) {
            check.due("trace " + i, x.trace(i), i < ran.size() ? ran.get(i) : -1);
        }
    }

    private static void actsRefused() {
        BellTrees x = new BellTrees();
        check.due("no trace yet", x.trace(0), -1);
        x.body(5);
        x.act(0, 3, 5);
        check.due("a trace", x.trace(0), 61);
        check.due("its last", x.trace(x.count(5) - 1) >= 0 ? 1 : 0, 1);
        check.due("behind its last", x.trace(x.count(5)), -1);
        for (int i : new int[] {-1, 24, Integer.MAX_VALUE, Integer.MIN_VALUE}) {
            check.due("no such place", x.trace(i), -1);
        }
        int[][] none = {{1, 0}, {-1, 0}, {0, 4}, {0, -1}, {50, 0}, {Integer.MAX_VALUE, 0}, {0, Integer.MIN_VALUE}};
        for (int[] row : none) {
            x.act(0, 3, 5);
            check.due("no such act", x.act(row[0], row[1], 5), 0);
            check.due("no trace", x.trace(0), -1);
            check.due("none ran", x.count(5), 0);
        }
    }

    private static void keeping() {
        BellTrees x = new BellTrees();
        x.body(3);
        check.due("a body", x.keep(0, 0), 1);
        check.due("its kind", x.taken(0, 0), 3);
        check.due("no such body", x.keep(0, 1), -1);
        check.due("no such body", x.keep(0, -2), -1);
        check.due("no such shelf", x.keep(6, 0), -1);
        check.due("no such shelf", x.keep(-1, -1), -1);
        check.due("it is there still", x.taken(0, 0), 3);
        check.due("nothing", x.keep(0, -1), 1);
        check.due("nothing is there", x.taken(0, 0), -11);
        check.due("nothing on nothing", x.keep(0, -1), 1);
        x.row(5, 2, 3);
        check.due("a body where a row was", x.keep(5, 0), 1);
        check.due("no row", x.put(5, 0, 1), -12);
        check.due("a row where a body was", x.row(5, 2, 3), 1);
        check.due("no body", x.taken(5, 0), -12);
        check.due("a row gone", x.keep(5, -1), 1);
        check.due("nothing", x.put(5, 0, 1), -11);
    }

    private static void takenForKinds() {
        BellTrees x = new BellTrees();
        for (int kind = 0; kind < 8; kind++) {
            x.body(kind);
            x.keep(2, kind);
            for (int k = 0; k < 8; k++) {
                boolean under = false;
                for (int at = kind; at >= 0; at = ABOVE[at]) {
                    under |= at == k;
                }
                check.due("kind " + kind + " taken for " + k, x.taken(2, k), under ? kind : -12);
            }
        }
        check.due("no such kind", x.taken(2, 8), -1);
        check.due("no such kind", x.taken(2, -1), -1);
        check.due("no such shelf", x.taken(6, 0), -1);
        check.due("no such shelf", x.taken(-1, 0), -1);
        check.due("nothing", x.taken(1, 0), -11);
        check.due("bad ahead of nothing", x.taken(1, 8), -1);
        x.row(2, 0, 1);
        check.due("a row", x.taken(2, 0), -12);
    }

    private static void rows() {
        BellTrees x = new BellTrees();
        check.due("sort 5", x.row(0, 5, 1), -1);
        check.due("sort -1", x.row(0, -1, 1), -1);
        check.due("61", x.row(0, 0, 61), -1);
        check.due("highest", x.row(0, 0, Integer.MAX_VALUE), -1);
        check.due("below 0", x.row(0, 0, -1), -14);
        check.due("lowest", x.row(0, 4, Integer.MIN_VALUE), -14);
        check.due("bad ahead of below 0", x.row(0, 5, -1), -1);
        check.due("bad ahead of below 0", x.row(6, 0, -1), -1);
        check.due("shelf -1", x.row(-1, 0, 1), -1);
        check.due("nothing came of it", x.put(0, 0, 0), -11);
        for (int sort = 0; sort < 5; sort++) {
            check.due("row", x.row(sort, sort, 60), 1);
            check.due("0 at first", x.element(sort, 59), 0);
            x.put(sort, 59, 1);
            check.due("1", x.element(sort, 59), 1);
            check.due("below 0 leaves the row", x.row(sort, sort, -1), -14);
            check.due("1 still", x.element(sort, 59), 1);
            check.due("row anew", x.row(sort, sort, 60), 1);
            check.due("0 at first", x.element(sort, 59), 0);
            check.due("an empty row", x.row(sort, sort, 0), 1);
            check.due("no place", x.put(sort, 0, 0), -13);
        }
    }

    private static void places() {
        BellTrees x = new BellTrees();
        x.body(0);
        x.keep(1, 0);
        x.row(2, 3, 4);
        int[][] refused = {{-1, 0, -1}, {6, 0, -1}, {0, 0, -11}, {0, -1, -11}, {1, 0, -12}, {1, 99, -12}, {2, -1, -13}, {2, 4, -13},
            {2, Integer.MAX_VALUE, -13}, {2, Integer.MIN_VALUE, -13}};
        for (int[] row : refused) {
            check.due("put refused", x.put(row[0], row[1], 7), row[2]);
            check.due("element refused", x.element(row[0], row[1]), Long.MIN_VALUE);
        }
        check.due("put", x.put(2, 3, Long.MAX_VALUE), 1);
        check.due("element", x.element(2, 3), Long.MAX_VALUE);
        check.due("the other", x.element(2, 0), 0);
    }

    private static void lowestBits() {
        BellTrees x = new BellTrees();
        for (int sort = 0; sort < 5; sort++) {
            x.row(sort, sort, 1);
        }
        long[] values = {0, 1, -1, 127, 128, 255, 256, 300, -128, -129, 32767, 32768, 65536, -32769, Integer.MAX_VALUE, 1L << 31,
            1L << 32, -1L << 31, (-1L << 31) - 1, Long.MAX_VALUE, Long.MIN_VALUE, 0x123456789abcdefL};
        for (long v : values) {
            long[] due = {(byte) v, (short) v, (int) v, v, v != 0 ? 1 : 0};
            for (int sort = 0; sort < 5; sort++) {
                check.due("put", x.put(sort, 0, v), 1);
                check.due("keeps its lowest bits", x.element(sort, 0), due[sort]);
            }
        }
    }

    private static void shifts() {
        BellTrees x = new BellTrees();
        Check.bytes(x, 0, 1, 2, 3, 4, 5);
        Check.bytes(x, 1, 9, 8, 7);
        x.row(2, 1, 5);
        x.body(0);
        x.keep(3, 0);
        int[][] refused = {{-1, 0, 0, 0, 0, -1}, {0, 0, 6, 0, 0, -1}, {6, 0, 5, 0, 0, -1}, {5, 0, 0, 0, 0, -11}, {0, 0, 5, 0, 0, -11},
            {5, 0, 3, 0, 0, -11}, {3, 0, 5, 0, 0, -11}, {3, 0, 0, 0, 0, -12}, {0, 0, 3, 0, 0, -12}, {3, 0, 3, 0, 0, -12},
            {0, 0, 2, 0, 0, -12}, {2, 9, 0, 9, 9, -12}, {0, -1, 1, 0, 1, -13}, {0, 0, 1, -1, 1, -13}, {0, 0, 1, 0, -1, -13},
            {0, 0, 1, 0, 4, -13}, {1, 0, 0, 3, 3, -13}, {0, 4, 1, 0, 2, -13}, {0, 6, 1, 0, 0, -13}, {0, 0, 1, 4, 0, -13},
            {0, Integer.MAX_VALUE, 1, 0, 2, -13}, {0, 0, 1, Integer.MAX_VALUE, 2, -13}, {0, 1, 1, 1, Integer.MAX_VALUE, -13},
            {0, 1, 1, 1, Integer.MIN_VALUE, -13}};
        for (int[] r : refused) {
            check.due("shift refused", x.shift(r[0], r[1], r[2], r[3], r[4]), r[5]);
        }
        are(x, 0, 1, 2, 3, 4, 5);
        are(x, 1, 9, 8, 7);
        check.due("none from the end", x.shift(0, 5, 1, 3, 0), 0);
        check.due("all", x.shift(0, 2, 1, 0, 3), 3);
        are(x, 1, 3, 4, 5);
        are(x, 0, 1, 2, 3, 4, 5);
        check.due("onto itself, upward", x.shift(0, 0, 0, 1, 4), 4);
        are(x, 0, 1, 1, 2, 3, 4);
        check.due("onto itself, downward", x.shift(0, 2, 0, 0, 3), 3);
        are(x, 0, 2, 3, 4, 3, 4);
    }

    private static void are(BellTrees x, int shelf, int... due) {
        for (int i = 0; i < due.length; i++) {
            check.due("element " + i, x.element(shelf, i), due[i]);
        }
        check.due("no more", x.element(shelf, due.length), Long.MIN_VALUE);
    }

    private static void shiftsByChance() {
        for (int sort = 0; sort < 5; sort++) {
            BellTrees x = new BellTrees();
            long[][] rows = new long[2][];
            for (int s = 0; s < 2; s++) {
                rows[s] = new long[random.nextInt(31) + 30];
                x.row(s, sort, rows[s].length);
                for (int i = 0; i < rows[s].length; i++) {
                    rows[s][i] = sort == 4 ? random.nextInt(2) : random.nextInt(128);
                    x.put(s, i, rows[s][i]);
                }
            }
            for (int turn = 0; turn < 60; turn++) {
                int a = random.nextInt(2);
                int b = random.nextInt(2);
                int i = random.nextInt(20);
                int j = random.nextInt(20);
                int n = random.nextInt(Math.min(rows[a].length - i, rows[b].length - j) + 1);
                check.due("shift", x.shift(a, i, b, j, n), n);
                System.arraycopy(rows[a], i, rows[b], j, n);
            }
            for (int s = 0; s < 2; s++) {
                for (int i = 0; i < rows[s].length; i++) {
                    check.due("shifted", x.element(s, i), rows[s][i]);
                }
            }
        }
    }

    private static void counts() {
        BellTrees x = new BellTrees();
        for (int what : new int[] {-1, 6, 7, Integer.MAX_VALUE, Integer.MIN_VALUE}) {
            check.due("no such count", x.count(what), -1);
        }
        x.tree(1);
        x.tree(2);
        x.tree(3);
        x.path(1);
        x.path(2);
        x.feed('l');
        x.mend(0, 0, 4);
        x.body(0);
        x.body(4);
        x.act(1, 3, 0);
        int[] due = {3, 2, 1, 1, 2, 6};
        for (int what = 0; what < 6; what++) {
            check.due("count " + what, x.count(what), due[what]);
        }
    }
}
