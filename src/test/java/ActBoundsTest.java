/** Promises 26 to 35 at their bounds: bodies, acts with ints that wrap, shelves, places, lowest bits, and what is counted. */
public final class ActBoundsTest {
    private static final int BAD = -1, FULL = -3;
    private static final int[] ABOVE = {-1, 0, 0, 2, 1, 3, 0, 6};
    private static final int[] INTS = {0, 1, -1, 2, 5, Integer.MAX_VALUE, Integer.MAX_VALUE - 1, Integer.MIN_VALUE, Integer.MIN_VALUE + 1,
        0x40000000, -0x40000000, 0x55555555};
    private static final Check check = new Check();

    public static void main(String[] args) {
        fiftyBodies();
        kinds();
        for (int x : INTS) {
            actsThatWrap(x);
        }
        traces();
        theTraceGoes();
        keptBodies();
        takenForEachKind();
        sizesOfRows();
        rowsAnew();
        placesOfRows();
        lowestBits();
        shiftsAtTheEnds();
        shiftsOntoItself();
        shiftsOfEachSort();
        shelvesAreSixOnes();
        counted();
        check.end();
    }

    private static void fiftyBodies() {
        BellTrees x = new BellTrees();
        for (int n = 0; n < 50; n++) {
            check.due("not kept yet", x.keep(0, n), BAD);
            check.due("number", x.body(7 - n % 8), n);
            check.due("how many", x.count(4), n + 1);
        }
        check.due("the 51st", x.body(0), FULL);
        check.due("the 51st, of no kind", x.body(8), BAD);
        check.due("fifty", x.count(4), 50);
        check.due("the last rings with its number", x.act(49, 0, 1), 50 + ringsMore(7 - 49 % 8, 50));
        check.due("the 51st is none", x.act(50, 0, 1), 0);
        check.due("nor can it be kept", x.keep(0, 50), BAD);
        check.due("the last can", x.keep(0, 49), 1);
        check.due("it is of its kind", x.taken(0, 0), 7 - 49 % 8);
    }

    /** What a KIND's rings() has more than x + n. */
    private static int ringsMore(int kind, int plain) {
        switch (kind) {
            case 1:
            case 4:
                return 3;
            case 6:
                return plain;
            case 7:
                return plain - 1;
            default:
                return 0;
        }
    }

    private static void kinds() {
        for (int kind = -1; kind <= 8; kind++) {
            BellTrees x = new BellTrees();
            boolean may = kind >= 0 && kind <= 7;
            check.due("kind " + kind, x.body(kind), may ? 0 : BAD);
            check.due("bodies", x.count(4), may ? 1 : 0);
            check.due("it rings", x.act(0, 0, 5), may ? 5 + ringsMore(kind, 5) : 0);
        }
        for (int act = -1; act <= 4; act++) {
            BellTrees x = new BellTrees();
            x.body(0);
            check.due("act " + act, x.act(0, act, 6), act == 0 ? 6 : act == 1 ? 12 : act == 2 ? 6 : act == 3 ? 11 : 0);
            check.due("bodies that ran", x.count(5), act == 0 ? 1 : act == 1 ? 2 : act == 2 ? 1 : act == 3 ? 4 : 0);
        }
        BellTrees x = new BellTrees();
        for (int body : new int[] {-1, 0, 1, 49, 50, Integer.MAX_VALUE, Integer.MIN_VALUE}) {
            check.due("no such body", x.act(body, 0, 5), 0);
        }
    }

    /** Each kind's four acts, told by hand, with n 0 .. 7. */
    private static void actsThatWrap(int v) {
        BellTrees x = new BellTrees();
        for (int kind = 0; kind < 8; kind++) {
            x.body(kind);
        }
        int[] rings = {v, v + 1 + 3, v + 2, v + 3, v + 4 + 3, v + 5, (v + 6) * 2, (v + 7) * 2 - 1};
        int[] hears = {v, v ^ 1, v ^ 2, (v ^ 3) * 3, v ^ 4, (v ^ 5) * 3 - 7, v ^ 6, v ^ 7};
        int[] brushes = {v * 2, (v + 4) * 2, -((v + 2) * 2), -((v + 1 + 3) * 2), (v + 7) * 2, -((v + 1 + 5) * 2), (v + 6) * 2 * 2,
            ((v + 7) * 2 - 1) * 2 + (2 ^ 7)};
        int[] hearsOne = {1, 1 ^ 1, 1 ^ 2, (1 ^ 3) * 3, 1 ^ 4, (1 ^ 5) * 3 - 7, 1 ^ 6, 1 ^ 7};
        for (int n = 0; n < 8; n++) {
            int writes = brushes[n] - hearsOne[n];
            writes = n == 4 ? writes ^ 5 : n == 5 ? writes + 1 : writes;
            check.due("rings of " + n + " with " + v, x.act(n, 0, v), rings[n]);
            check.due("brushes of " + n + " with " + v, x.act(n, 1, v), brushes[n]);
            check.due("hears of " + n + " with " + v, x.act(n, 2, v), hears[n]);
            check.due("writes of " + n + " with " + v, x.act(n, 3, v), writes);
        }
    }

    /** By KIND and ACT the numbers of the bodies as they begin. */
    private static void traces() {
        int[][][] due = {
            {{1}, {10, 1}, {11}, {2, 10, 1, 11}},
            {{20, 1}, {10, 20, 1}, {11}, {2, 10, 20, 1, 11}},
            {{1}, {30, 10, 1}, {11}, {2, 30, 10, 1, 11}},
            {{1}, {41, 30, 10, 1}, {40, 11}, {2, 41, 30, 10, 1, 40, 11}},
            {{20, 1}, {10, 20, 1}, {11}, {50, 2, 10, 20, 1, 11}},
            {{1}, {41, 30, 10, 1}, {60, 40, 11, 1}, {61, 2, 41, 30, 10, 1, 60, 40, 11, 1}},
            {{70, 1}, {10, 70, 1}, {11}, {2, 10, 70, 1, 11}},
            {{81, 70, 1}, {80, 10, 81, 70, 1, 11}, {11}, {2, 80, 10, 81, 70, 1, 11, 11}}};
        BellTrees x = new BellTrees();
        for (int kind = 0; kind < 8; kind++) {
            x.body(kind);
        }
        for (int kind = 0; kind < 8; kind++) {
            for (int act = 0; act < 4; act++) {
                x.act(kind, act, 1);
                int[] ran = due[kind][act];
                check.due("as many ran", x.count(5), ran.length);
                for (int i = 0; i < ran.length; i++) {
                    check.due("trace " + i + " of " + kind + " " + act, x.trace(i), ran[i]);
                }
                check.due("behind the last", x.trace(ran.length), BAD);
                check.due("ahead of the first", x.trace(-1), BAD);
                check.due("the 24th", x.trace(23), BAD);
                check.due("the 25th", x.trace(24), BAD);
            }
        }
    }

    private static void theTraceGoes() {
        BellTrees x = new BellTrees();
        x.body(7);
        int[][] none = {{-1, 0}, {1, 0}, {50, 3}, {0, -1}, {0, 4}, {1, 4}, {Integer.MIN_VALUE, 0}, {0, Integer.MAX_VALUE}};
        for (int[] row : none) {
            x.act(0, 3, 1);
            check.due("eight ran", x.count(5), 8);
            check.due("no such body or act", x.act(row[0], row[1], 5), 0);
            check.due("none ran", x.count(5), 0);
            for (int i = 0; i < 8; i++) {
                check.due("no trace", x.trace(i), BAD);
            }
        }
        x.act(0, 3, 1);
        x.act(0, 2, 1);
        check.due("of the latest alone", x.count(5), 1);
        check.due("of the latest alone", x.trace(0), 11);
        check.due("of the latest alone", x.trace(1), BAD);
        x.body(0);
        x.tree(0);
        x.body(8);
        check.due("it stays till the next", x.trace(0), 11);
    }

    private static void keptBodies() {
        BellTrees x = new BellTrees();
        x.body(0);
        x.body(7);
        for (int shelf = -1; shelf <= 6; shelf++) {
            boolean may = shelf >= 0 && shelf <= 5;
            check.due("a body on " + shelf, x.keep(shelf, 1), may ? 1 : BAD);
            check.due("its kind", x.taken(shelf, 7), may ? 7 : BAD);
            check.due("number -2", x.keep(shelf, -2), BAD);
            check.due("number 2", x.keep(shelf, 2), BAD);
            check.due("its kind still", x.taken(shelf, 7), may ? 7 : BAD);
            check.due("the first body", x.keep(shelf, 0), may ? 1 : BAD);
            check.due("its kind", x.taken(shelf, 0), may ? 0 : BAD);
            check.due("nothing", x.keep(shelf, -1), may ? 1 : BAD);
            check.due("nothing is there", x.taken(shelf, 0), may ? -11 : BAD);
            check.due("a row", x.row(shelf, 0, 0), may ? 1 : BAD);
            check.due("a row of no elements is not nothing", x.taken(shelf, 0), may ? -12 : BAD);
            check.due("a body instead", x.keep(shelf, 1), may ? 1 : BAD);
            check.due("no row", x.put(shelf, 0, 1), may ? -12 : BAD);
            check.due("a row instead", x.row(shelf, 0, 1), may ? 1 : BAD);
            check.due("no body", x.taken(shelf, 7), may ? -12 : BAD);
            check.due("nothing instead", x.keep(shelf, -1), may ? 1 : BAD);
            check.due("nothing", x.put(shelf, 0, 1), may ? -11 : BAD);
        }
        check.due("the bodies stay", x.count(4), 2);
    }

    private static void takenForEachKind() {
        BellTrees x = new BellTrees();
        for (int kind = 0; kind < 8; kind++) {
            x.body(kind);
            x.keep(5, kind);
            for (int k = -1; k <= 8; k++) {
                int at = kind;
                while (at != k && at >= 0) {
                    at = ABOVE[at];
                }
                check.due("kind " + kind + " for " + k, x.taken(5, k), k < 0 || k > 7 ? BAD : at == k ? kind : -12);
            }
        }
        x.row(5, 0, 5);
        check.due("a row for no kind", x.taken(5, 8), BAD);
        check.due("a row for a kind", x.taken(5, 0), -12);
        x.keep(5, -1);
        check.due("nothing for no kind", x.taken(5, 8), BAD);
        check.due("nothing for a kind", x.taken(5, 7), -11);
    }

    private static void sizesOfRows() {
        int[] sizes = {Integer.MIN_VALUE, -2, -1, 0, 1, 59, 60, 61, 62, Integer.MAX_VALUE};
        for (int sort = -1; sort <= 5; sort++) {
            for (int n : sizes) {
                for (int shelf = -1; shelf <= 6; shelf++) {
                    BellTrees x = new BellTrees();
                    boolean bad = shelf < 0 || shelf > 5 || sort < 0 || sort > 4 || n > 60;
                    int due = bad ? BAD : n < 0 ? -14 : 1;
                    check.due("row " + shelf + " " + sort + " " + n, x.row(shelf, sort, n), due);
                    if (due == 1) {
                        check.due("the first", x.element(shelf, 0), n == 0 ? Long.MIN_VALUE : 0);
                        check.due("the last", x.element(shelf, n - 1), n == 0 ? Long.MIN_VALUE : 0);
                        check.due("behind it", x.element(shelf, n), Long.MIN_VALUE);
                        check.due("ahead of it", x.element(shelf, -1), Long.MIN_VALUE);
                    } else if (shelf >= 0 && shelf < 6) {
                        check.due("nothing came", x.put(shelf, 0, 0), -11);
                    }
                }
            }
        }
    }

    private static void rowsAnew() {
        for (int sort = 0; sort < 5; sort++) {
            BellTrees x = new BellTrees();
            x.row(0, 3, 60);
            for (int i = 0; i < 60; i++) {
                x.put(0, i, -1);
            }
            check.due("anew", x.row(0, sort, 60), 1);
            for (int i = 0; i < 60; i++) {
                check.due("0 at first", x.element(0, i), 0);
            }
            for (int i = 0; i < 60; i++) {
                x.put(0, i, 1);
            }
            x.row(0, sort, 5);
            check.due("a shorter one", x.put(0, 5, 1), -13);
            x.row(0, sort, 60);
            check.due("0 at first", x.element(0, 4), 0);
            check.due("0 at first", x.element(0, 5), 0);
            check.due("0 at first", x.element(0, 59), 0);
            x.put(0, 59, 1);
            x.body(0);
            x.keep(0, 0);
            x.row(0, sort, 60);
            check.due("0 at first", x.element(0, 59), 0);
            x.put(0, 0, 1);
            x.row(0, sort, -1);
            x.row(0, sort, 61);
            x.row(0, 5, 1);
            check.due("a refused one leaves what was", x.element(0, 0), 1);
        }
    }

    private static void placesOfRows() {
        for (int size : new int[] {0, 1, 2, 59, 60}) {
            for (int sort = 0; sort < 5; sort++) {
                BellTrees x = new BellTrees();
                x.row(3, sort, size);
                for (int i : new int[] {Integer.MIN_VALUE, -1, 0, size - 1, size, 60, Integer.MAX_VALUE}) {
                    boolean may = i >= 0 && i < size;
                    check.due("put at " + i + " of " + size, x.put(3, i, 1), may ? 1 : -13);
                    check.due("element " + i + " of " + size, x.element(3, i), may ? 1 : Long.MIN_VALUE);
                }
            }
        }
        BellTrees x = new BellTrees();
        x.body(0);
        x.keep(1, 0);
        for (int i : new int[] {-1, 0, 60}) {
            check.due("of nothing", x.put(0, i, 1), -11);
            check.due("of a body", x.put(1, i, 1), -12);
            check.due("of nothing", x.element(0, i), Long.MIN_VALUE);
            check.due("of a body", x.element(1, i), Long.MIN_VALUE);
        }
    }

    private static void lowestBits() {
        // What is put in, and what comes out of bytes, shorts, ints, longs, booleans.
        long[][] rows = {
            {0, 0, 0, 0, 0, 0},
            {1, 1, 1, 1, 1, 1},
            {-1, -1, -1, -1, -1, 1},
            {2, 2, 2, 2, 2, 1},
            {127, 127, 127, 127, 127, 1},
            {128, -128, 128, 128, 128, 1},
            {-128, -128, -128, -128, -128, 1},
            {-129, 127, -129, -129, -129, 1},
            {255, -1, 255, 255, 255, 1},
            {256, 0, 256, 256, 256, 1},
            {32767, -1, 32767, 32767, 32767, 1},
            {32768, 0, -32768, 32768, 32768, 1},
            {-32768, 0, -32768, -32768, -32768, 1},
            {-32769, -1, 32767, -32769, -32769, 1},
            {65535, -1, -1, 65535, 65535, 1},
            {65536, 0, 0, 65536, 65536, 1},
            {2147483647L, -1, -1, 2147483647L, 2147483647L, 1},
            {2147483648L, 0, 0, -2147483648L, 2147483648L, 1},
            {-2147483648L, 0, 0, -2147483648L, -2147483648L, 1},
            {-2147483649L, -1, -1, 2147483647L, -2147483649L, 1},
            {4294967295L, -1, -1, -1, 4294967295L, 1},
            {4294967296L, 0, 0, 0, 4294967296L, 1},
            {Long.MAX_VALUE, -1, -1, -1, Long.MAX_VALUE, 1},
            {Long.MIN_VALUE + 1, 1, 1, 1, Long.MIN_VALUE + 1, 1},
            {Long.MIN_VALUE, 0, 0, 0, Long.MIN_VALUE, 1}};
        for (long[] row : rows) {
            BellTrees x = new BellTrees();
            for (int sort = 0; sort < 5; sort++) {
                x.row(sort, sort, 2);
                check.due("put " + row[0], x.put(sort, 1, row[0]), 1);
                check.due(row[0] + " in sort " + sort, x.element(sort, 1), row[sort + 1]);
                check.due("the one ahead of it", x.element(sort, 0), 0);
                x.put(sort, 1, 0);
                check.due("0 again", x.element(sort, 1), 0);
            }
        }
    }

    private static void shiftsAtTheEnds() {
        for (int from = 0; from <= 4; from++) {
            for (int to = 0; to <= 3; to++) {
                for (int n = -1; n <= 5; n++) {
                    for (int i = -1; i <= 6; i++) {
                        shiftOf(from, to, n, i);
                    }
                }
            }
        }
        BellTrees x = new BellTrees();
        x.row(0, 3, 60);
        x.row(5, 3, 60);
        x.put(0, 0, Long.MAX_VALUE);
        x.put(0, 59, Long.MIN_VALUE + 1);
        check.due("all sixty", x.shift(0, 0, 5, 0, 60), 60);
        check.due("the first", x.element(5, 0), Long.MAX_VALUE);
        check.due("the last", x.element(5, 59), Long.MIN_VALUE + 1);
        check.due("one more", x.shift(0, 0, 5, 0, 61), -13);
        check.due("the last to the first", x.shift(0, 59, 5, 0, 1), 1);
        check.due("the first", x.element(5, 0), Long.MIN_VALUE + 1);
        check.due("none behind the last", x.shift(0, 60, 5, 60, 0), 0);
        check.due("none further behind", x.shift(0, 61, 5, 60, 0), -13);
        check.due("none further behind", x.shift(0, 60, 5, 61, 0), -13);
        for (int out : new int[] {Integer.MAX_VALUE, Integer.MIN_VALUE}) {
            check.due("far out", x.shift(0, out, 5, 0, 1), -13);
            check.due("far out", x.shift(0, 0, 5, out, 1), -13);
            check.due("far out", x.shift(0, 0, 5, 0, out), -13);
            check.due("far out", x.shift(0, 1, 5, 1, out), -13);
            check.due("far out", x.shift(0, out, 5, out, out), -13);
        }
    }

    private static void shiftOf(int from, int to, int n, int i) {
        BellTrees x = new BellTrees();
        Check.bytes(x, 0, 1, 2, 3, 4);
        Check.bytes(x, 1, 7, 8, 9);
        boolean may = n >= 0 && from + n <= 4 && to + n <= 3;
        check.due("shift " + from + " " + to + " " + n, x.shift(0, from, 1, to, n), may ? n : -13);
        boolean moved = may && i >= to && i < to + n;
        long due = i < 0 || i > 2 ? Long.MIN_VALUE : moved ? i - to + from + 1 : i + 7;
        check.due("element " + i, x.element(1, i), due);
    }

    private static void shiftsOntoItself() {
        for (int from = 0; from <= 6; from++) {
            for (int to = 0; to <= 6; to++) {
                int n = 6 - Math.max(from, to);
                BellTrees x = new BellTrees();
                Check.bytes(x, 2, 1, 2, 3, 4, 5, 6);
                check.due("onto itself", x.shift(2, from, 2, to, n), n);
                for (int i = 0; i < 6; i++) {
                    check.due("as they all were before", x.element(2, i), i >= to && i < to + n ? i - to + from + 1 : i + 1);
                }
            }
        }
    }

    private static void shiftsOfEachSort() {
        for (int one = 0; one < 5; one++) {
            for (int other = 0; other < 5; other++) {
                BellTrees x = new BellTrees();
                x.row(0, one, 2);
                x.row(1, other, 2);
                x.put(0, 0, 1);
                check.due("of sorts " + one + " " + other, x.shift(0, 0, 1, 1, 1), one == other ? 1 : -12);
                check.due("moved or not", x.element(1, 1), one == other ? 1 : 0);
                check.due("none of them", x.shift(0, 0, 1, 0, 0), one == other ? 0 : -12);
                check.due("a place that is not there", x.shift(0, 0, 1, 2, 1), one == other ? -13 : -12);
                check.due("below 0", x.shift(0, 0, 1, 0, -1), one == other ? -13 : -12);
            }
        }
        BellTrees x = new BellTrees();
        x.body(0);
        x.keep(1, 0);
        x.row(2, 0, 0);
        x.row(3, 0, 0);
        check.due("empty rows", x.shift(2, 0, 3, 0, 0), 0);
        check.due("of empty rows one", x.shift(2, 0, 3, 0, 1), -13);
        check.due("nothing", x.shift(0, 0, 2, 0, 0), -11);
        check.due("to nothing", x.shift(2, 0, 0, 0, 0), -11);
        check.due("nothing to itself", x.shift(0, 0, 0, 0, 0), -11);
        check.due("a body", x.shift(1, 0, 2, 0, 0), -12);
        check.due("to a body", x.shift(2, 0, 1, 0, 0), -12);
        check.due("a body to itself", x.shift(1, 0, 1, 0, 0), -12);
        check.due("a body to nothing", x.shift(1, 0, 0, 0, 0), -11);
        check.due("no place of nothing", x.shift(0, -1, 2, -1, -1), -11);
        check.due("no place of a body", x.shift(1, -1, 2, -1, -1), -12);
        for (int shelf : new int[] {-1, 6}) {
            check.due("no shelf", x.shift(shelf, 0, 2, 0, 0), BAD);
            check.due("no other shelf", x.shift(2, 0, shelf, 0, 0), BAD);
            check.due("no shelf, and nothing", x.shift(shelf, 0, 0, 0, 0), BAD);
            check.due("no other shelf, and nothing", x.shift(0, 0, shelf, 0, 0), BAD);
        }
    }

    private static void shelvesAreSixOnes() {
        BellTrees x = new BellTrees();
        for (int shelf = 0; shelf < 6; shelf++) {
            Check.bytes(x, shelf, shelf + 1);
        }
        for (int shelf = 0; shelf < 6; shelf++) {
            check.due("its own", x.element(shelf, 0), shelf + 1);
        }
        check.due("from the last to the first", x.shift(5, 0, 0, 0, 1), 1);
        check.due("moved", x.element(0, 0), 6);
        check.due("and still there", x.element(5, 0), 6);
        x.put(5, 0, 9);
        check.due("each its own", x.element(0, 0), 6);
    }

    private static void counted() {
        BellTrees x = new BellTrees();
        for (int what = -1; what <= 6; what++) {
            check.due("at first", x.count(what), what < 0 || what > 5 ? BAD : 0);
        }
        for (int t = 0; t < 8; t++) {
            x.tree(195);
        }
        for (int a = 0; a < 8; a++) {
            for (int b = a + 1; b < 8; b++) {
                x.path(10 * a + b);
            }
        }
        for (int i = 0; i < 121; i++) {
            x.feed('l');
        }
        for (int i = 1; i < 42; i++) {
            x.mend(0, 0, i % 10);
        }
        for (int i = 0; i < 51; i++) {
            x.body(5);
        }
        x.act(49, 3, 0);
        int[] due = {8, 14, 120, 40, 50, 10};
        for (int what = -1; what <= 6; what++) {
            check.due("at last", x.count(what), what < 0 || what > 5 ? BAD : due[what]);
        }
        x.undo();
        check.due("one undone", x.count(3), 39);
        x.redo();
        check.due("done again", x.count(3), 40);
        x.law();
        check.due("an empty tape", x.count(2), 0);
        check.due("eight trees still", x.count(0), 8);
    }
}
