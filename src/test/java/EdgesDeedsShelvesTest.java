/** The boundary cases of promises 3 and 32 to 41, and of what section 4 of the terms says. */
public final class EdgesDeedsShelvesTest {
    private static final int MAX = Integer.MAX_VALUE, MIN = Integer.MIN_VALUE, HALF = 0x40000000;

    public static void main(String[] args) {
        bodies();
        bodyNumbers();
        actsAsked();
        actsWrap();
        actsOfTheLastBody();
        ownAndAbove();
        trace();
        traceOfTheLatest();
        shelvesAtFirst();
        shelfNumbers();
        keep();
        row();
        rowIsNew();
        lowestBits();
        booleans();
        places();
        refusalsOfElements();
        shiftPlaces();
        shiftAsTheyAllWere();
        shiftSorts();
        taken();
        sortsAsked();
        sortsEndWithTheRow();
        sortsEndWithABadOne();
        sortsEndWhenFull();
        sortsFromAPlace();
        count();
        Due.close();
    }

    private static CoinsOfLast withBodies(int... kinds) {
        CoinsOfLast x = new CoinsOfLast();
        for (int kind : kinds) {
            x.body(kind);
        }
        return x;
    }

    // ---- deeds

    private static void bodies() {
        Due.says("DEEDS' ways are kept by call as BODIES 0 .. 49, of KINDS");
        CoinsOfLast x = new CoinsOfLast();
        for (int n = 0; n < 50; n++) {
            Due.is("bodies", x.count(5), n);
            Due.is("body", x.body(n % 8), n);
        }
        Due.is("bodies", x.count(5), 50);
        Due.is("body 51", x.body(0), -3);
        Due.is("body 52", x.body(7), -3);
        Due.is("a bad kind", x.body(8), -1);
        Due.is("a bad kind", x.body(-1), -1);
        Due.is("bodies", x.count(5), 50);
        Due.is("the last one keeps", x.keep(0, 49), 1);
        Due.is("its kind", x.taken(0, 0), 49 % 8);
        Due.says("A DEED of a KIND (0 .. 7) is kept: its number. BAD, FULL.");
        Due.range("kind", 0, 7, -1, kind -> new CoinsOfLast().body(kind));
    }

    private static void bodyNumbers() {
        Due.says("BAD (-1): no such number, or it is not as said");
        Due.is("the first of none", new CoinsOfLast().keep(0, 0), -1);
        Due.is("nothing of none", new CoinsOfLast().keep(0, -1), 1);
        for (int n = 1; n <= 50; n++) {
            CoinsOfLast x = withBodies(new int[n]);
            Due.range("keep of " + n, -1, n - 1, -1, body -> x.keep(3, body));
        }
    }

    private static void actsAsked() {
        Due.says("An ACT (0 .. 3) of a DEED with x. 0, and no TRACE then: no such DEED, ACT.");
        CoinsOfLast none = new CoinsOfLast();
        Due.is("the first of none", none.act(0, 0, 7), 0);
        Due.is("no trace", none.count(6), 0);
        int[][] bad = {{-1, 0}, {2, 0}, {49, 0}, {50, 0}, {MIN, 0}, {MAX, 0}, {0, -1}, {0, 4}, {1, -1}, {1, 4}, {0, MIN}, {0, MAX}, {-1, 4}};
        for (int[] b : bad) {
            CoinsOfLast x = withBodies(0, 0);
            Due.is("act", x.act(1, 0, 7), 8);
            Due.is("trace", x.trace(0), 1);
            Due.is("act(" + b[0] + ", " + b[1] + ")", x.act(b[0], b[1], 7), 0);
            Due.is("no trace", x.trace(0), -1);
            Due.is("none ran", x.count(6), 0);
        }
        int[] wants = {8, 16, 6, 16};
        for (int act = 0; act < 4; act++) {
            CoinsOfLast x = withBodies(0, 0);
            Due.is("act " + act, x.act(1, act, 7), wants[act]);
            Due.is("that ran", x.trace(0), new int[] {1, 10, 11, 2}[act]);
        }
    }

    private static void wraps(int kind, int act, int... xsAndWants) {
        for (int i = 0; i < xsAndWants.length; i += 2) {
            String call = "kind " + kind + ", act " + act + " with " + xsAndWants[i];
            Due.is(call, withBodies(kind).act(0, act, xsAndWants[i]), xsAndWants[i + 1]);
        }
    }

    private static void actsWrap() {
        Due.says("ACTS with x (an int that wraps)");
        wraps(0, 0, MAX, MAX, MIN, MIN, -1, -1, 0, 0);
        wraps(0, 1, HALF - 1, MAX - 1, HALF, MIN, HALF + 1, MIN + 2, -HALF, MIN, -HALF - 1, MAX - 1, MAX, -2, MIN, 0);
        wraps(0, 2, MAX, MAX, MIN, MIN);
        // Swaps of 1 is 1: 2x - 1.
        wraps(0, 3, HALF, MAX, HALF - 1, MAX - 2, HALF + 1, MIN + 1);
        wraps(1, 0, MAX - 3, MAX, MAX - 2, MIN, MAX, MIN + 2, -3, 0, MIN, MIN + 3);
        wraps(2, 1, HALF, MIN, HALF - 1, 2 - MAX - 1, HALF + 1, MAX - 1, 0, 0);
        wraps(3, 2, 715827882, MAX - 1, 715827883, MIN + 1, -715827882, 2 - MAX - 1, MAX, MAX - 2, MIN, MIN);
        wraps(3, 1, MAX, 0, MAX - 1, 2, -1, 0, -2, 2, HALF - 1, MIN);
        wraps(4, 2, MIN, MAX - 1, MIN + 1, MAX, MIN + 2, MIN, MAX, MAX - 2);
        wraps(5, 3, 0, (6 - 1) ^ 5, 1, (8 - 1) ^ 5, -3, -1 ^ 5);
        wraps(6, 0, HALF, MIN, HALF - 1, MAX - 1, -1, -2, MIN, 0);
        wraps(6, 2, MIN, MAX - 3, MIN + 3, MAX, MIN + 4, MIN);
        // Changes: 6 less twice x and 1.
        wraps(7, 1, 0, 4, HALF - 1, MIN + 6, HALF, MIN + 4, MAX, 6, HALF + 1, MIN + 2, HALF + 2, MIN, HALF + 3, MAX - 1);
        wraps(7, 3, 0, 4 - 3 - 1, HALF + 2, MAX - 3, HALF, MIN);
    }

    private static void actsOfTheLastBody() {
        Due.says("n its number.");
        CoinsOfLast x = withBodies(new int[50]);
        for (int n : new int[] {0, 1, 2, 48, 49}) {
            Due.is("pays", x.act(n, 0, 100), 100 + n);
            Due.is("wraps", x.act(n, 0, MAX), n == 0 ? MAX : MIN + n - 1);
            Due.is("changes", x.act(n, 1, 100), 200 + 2 * n);
            Due.is("swaps", x.act(n, 2, 100), 100 ^ n);
            Due.is("swaps", x.act(n, 2, -1), -1 - n);
            Due.is("tells", x.act(n, 3, 100), 200 + 2 * n - (1 ^ n));
        }
    }

    private static void ownAndAbove() {
        Due.says("the body of its own KIND, or of the next KIND above that has one; super: from the KIND above the body's on.");
        int[][] firsts = {{1, 10, 11, 2}, {20, 10, 11, 2}, {1, 30, 11, 2}, {1, 41, 40, 2}, {1, 10, 50, 2}, {20, 10, 11, 60}, {70, 10, 50, 2},
            {1, 80, 40, 81}};
        int[][] numbers = {{1, 2, 1, 4}, {2, 3, 1, 5}, {1, 3, 1, 5}, {1, 4, 2, 7}, {1, 2, 3, 6}, {2, 3, 1, 6}, {2, 3, 4, 8}, {1, 7, 2, 11}};
        CoinsOfLast x = withBodies(0, 1, 2, 3, 4, 5, 6, 7);
        for (int kind = 0; kind < 8; kind++) {
            for (int act = 0; act < 4; act++) {
                x.act(kind, act, 3);
                Due.is("the first body of kind " + kind + ", act " + act, x.trace(0), firsts[kind][act]);
                Due.is("how many of kind " + kind + ", act " + act, x.count(6), numbers[kind][act]);
            }
        }
    }

    private static void trace() {
        Due.says("THE TRACE's i-th body. BAD.");
        Due.is("of a new object", new CoinsOfLast().trace(0), -1);
        CoinsOfLast x = withBodies(7);
        x.act(0, 3, 5);
        int[] want = {81, 2, 80, 41, 30, 10, 1, 40, 11, 40, 11};
        for (int i = 0; i < want.length; i++) {
            Due.is("trace " + i, x.trace(i), want[i]);
        }
        Due.range("trace", 0, 10, -1, i -> x.trace(i));
        for (int i : new int[] {22, 23, 24, 25}) {
            Due.is("trace " + i, x.trace(i), -1);
        }
        CoinsOfLast y = withBodies(0);
        y.act(0, 0, 5);
        Due.range("trace of one", 0, 0, -1, i -> y.trace(i));
    }

    private static void traceOfTheLatest() {
        Due.says("THE TRACE: numbers of the bodies that ran in the latest act(), as they began; the first 24 are kept.");
        CoinsOfLast x = withBodies(7, 0);
        for (int n = 0; n < 3; n++) {
            x.act(0, 3, 5);
            Due.is("eleven ran", x.count(6), 11);
            Due.is("the last one", x.trace(10), 11);
            x.act(1, 2, 5);
            Due.is("one ran", x.count(6), 1);
            Due.is("that one", x.trace(0), 11);
            Due.is("none of the act ahead", x.trace(1), -1);
        }
    }

    // ---- shelves

    private static void shelvesAtFirst() {
        Due.says("SHELVES 0 .. 5 each hold nothing (at first)");
        CoinsOfLast x = new CoinsOfLast();
        for (int shelf = 0; shelf < 6; shelf++) {
            Due.is("put", x.put(shelf, 0, 1), -11);
            Due.is("element", x.element(shelf, 0), Long.MIN_VALUE);
            Due.is("taken", x.taken(shelf, 0), -11);
            Due.is("sorts", x.sorts(shelf, 0, 1), 0);
            Due.is("shift", x.shift(shelf, 0, shelf, 0, 0), -11);
        }
    }

    private static void shelfNumbers() {
        Due.says("SHELVES 0 .. 5");
        Due.range("sorts", 0, 5, -1, shelf -> new CoinsOfLast().sorts(shelf, 0, 1));
        Due.range("keep", 0, 5, -1, shelf -> new CoinsOfLast().keep(shelf, -1));
        Due.range("row", 0, 5, -1, shelf -> new CoinsOfLast().row(shelf, 0, 1));
        Due.range("put", 0, 5, -1, shelf -> new CoinsOfLast().put(shelf, 0, 1));
        Due.range("taken", 0, 5, -1, shelf -> new CoinsOfLast().taken(shelf, 0));
        CoinsOfLast x = new CoinsOfLast();
        for (int shelf = 0; shelf < 6; shelf++) {
            x.row(shelf, 2, 2);
            x.put(shelf, 0, shelf + 10);
        }
        Due.range("shift from", 0, 5, -1, shelf -> x.shift(shelf, 1, 2, 1, 1));
        Due.range("shift to", 0, 5, -1, shelf -> x.shift(3, 1, shelf, 1, 1));
        Due.range("element", 0, 5, Long.MIN_VALUE, shelf -> x.element(shelf, 0));
        for (int shelf = 0; shelf < 6; shelf++) {
            Due.is("each its own", x.element(shelf, 0), shelf + 10);
        }
    }

    private static void keep() {
        Due.says("A SHELF holds nothing (body -1), or a DEED: 1. BAD.");
        CoinsOfLast x = withBodies(3, 7);
        Due.is("body 1", x.keep(5, 1), 1);
        Due.is("its kind", x.taken(5, 0), 7);
        Due.is("body 2", x.keep(5, 2), -1);
        Due.is("body -2", x.keep(5, -2), -1);
        Due.is("it stays", x.taken(5, 0), 7);
        Due.is("body 0", x.keep(5, 0), 1);
        Due.is("its kind", x.taken(5, 0), 3);
        Due.is("a deed is no row", x.put(5, 0, 0), -12);
        Due.is("nothing", x.keep(5, -1), 1);
        Due.is("nothing is there", x.taken(5, 0), -11);
        Due.is("nothing is there", x.put(5, 0, 0), -11);
        Due.is("a row", x.row(5, 0, 1), 1);
        Due.is("a row is no deed", x.taken(5, 0), -12);
        Due.is("a deed again", x.keep(5, 0), 1);
        Due.is("its kind", x.taken(5, 3), 3);
    }

    private static void row() {
        Due.says("A SHELF holds a ROW: 1. BAD (sort, n above 60); -14.");
        Due.range("sort", 0, 4, -1, sort -> new CoinsOfLast().row(0, sort, 60));
        for (int sort = 0; sort < 5; sort++) {
            for (int n : new int[] {0, 1, 59, 60}) {
                CoinsOfLast x = new CoinsOfLast();
                Due.is("row of " + n, x.row(2, sort, n), 1);
                Due.is("its last place", x.put(2, n - 1, 1), n == 0 ? -13 : 1);
                Due.is("behind it", x.put(2, n, 1), -13);
                Due.is("ahead of it", x.put(2, -1, 1), -13);
            }
            for (int n : new int[] {61, 62, MAX - 1, MAX}) {
                Due.is("row of " + n, new CoinsOfLast().row(2, sort, n), -1);
            }
            for (int n : new int[] {-1, -2, MIN + 1, MIN}) {
                Due.is("row of " + n, new CoinsOfLast().row(2, sort, n), -14);
            }
        }
        CoinsOfLast y = new CoinsOfLast();
        y.row(2, 2, 3);
        y.put(2, 2, 77);
        Due.is("bad", y.row(2, 2, 61), -1);
        Due.is("bad", y.row(2, 5, 3), -1);
        Due.is("below 0", y.row(2, 2, -1), -14);
        Due.is("the row stays", y.element(2, 2), 77);
        Due.is("bad ahead of below 0", y.row(2, 5, -1), -1);
        Due.is("bad ahead of below 0", y.row(2, -1, -1), -1);
        Due.is("bad ahead of below 0", y.row(6, 2, -1), -1);
        Due.is("the row stays", y.element(2, 2), 77);
    }

    private static void rowIsNew() {
        Due.says("of 0 .. 60 elements, 0 at first (false)");
        CoinsOfLast x = new CoinsOfLast();
        for (int sort = 0; sort < 5; sort++) {
            x.row(1, sort, 60);
            for (int i : new int[] {0, 1, 30, 58, 59}) {
                Due.is("at first", x.element(1, i), 0);
                x.put(1, i, 1);
                Due.is("put", x.element(1, i), 1);
            }
        }
        x.row(1, 2, 1);
        Due.is("a shorter row", x.element(1, 1), Long.MIN_VALUE);
        x.row(1, 2, 60);
        for (int i : new int[] {0, 1, 30, 58, 59}) {
            Due.is("at first again", x.element(1, i), 0);
        }
    }

    private static void lowest(int sort, long... putAndKept) {
        CoinsOfLast x = new CoinsOfLast();
        x.row(0, sort, 3);
        for (int i = 0; i < putAndKept.length; i += 2) {
            Due.is("put " + putAndKept[i], x.put(0, 1, putAndKept[i]), 1);
            Due.is("keeps of " + putAndKept[i], x.element(0, 1), putAndKept[i + 1]);
            Due.is("ahead", x.element(0, 0), 0);
            Due.is("behind", x.element(0, 2), 0);
        }
    }

    private static void lowestBits() {
        Due.says("what is put in keeps its lowest bits");
        lowest(0, 0, 0, 1, 1, -1, -1, 126, 126, 127, 127, 128, -128, 129, -127, 255, -1, 256, 0, 257, 1,
            -127, -127, -128, -128, -129, 127, -256, 0, Long.MAX_VALUE, -1, Long.MIN_VALUE, 0);
        lowest(1, 0, 0, 1, 1, -1, -1, 32766, 32766, 32767, 32767, 32768, -32768, 32769, -32767, 65535, -1, 65536, 0, 65537, 1,
            -32768, -32768, -32769, 32767, 128, 128, Long.MAX_VALUE, -1, Long.MIN_VALUE, 0);
        lowest(2, 0, 0, -1, -1, 2147483646L, 2147483646L, 2147483647L, 2147483647L, 2147483648L, -2147483648L, 2147483649L, -2147483647L,
            4294967295L, -1, 4294967296L, 0, 4294967297L, 1, -2147483648L, -2147483648L, -2147483649L, 2147483647L,
            32768, 32768, Long.MAX_VALUE, -1, Long.MIN_VALUE, 0);
        lowest(3, 0, 0, -1, -1, 2147483648L, 2147483648L, 4294967296L, 4294967296L, Long.MAX_VALUE, Long.MAX_VALUE,
            Long.MIN_VALUE, Long.MIN_VALUE, Long.MIN_VALUE + 1, Long.MIN_VALUE + 1);
    }

    private static void booleans() {
        Due.says("(a boolean: whether it is not 0; 1 or 0)");
        lowest(4, 0, 0, 1, 1, 0, 0, -1, 1, 2, 1, 0, 0, 256, 1, 0, 0, 65536, 1, 4294967296L, 1, 0, 0, Long.MAX_VALUE, 1, 0, 0,
            Long.MIN_VALUE, 1);
    }

    private static void places() {
        Due.says("-13 a place that is not there");
        for (int n : new int[] {0, 1, 2, 59, 60}) {
            CoinsOfLast x = new CoinsOfLast();
            x.row(0, 3, n);
            for (int i : new int[] {MIN, -2, -1, 0, 1, 2, 58, 59, 60, 61, MAX}) {
                boolean there = i >= 0 && i < n;
                Due.is("put " + i + " of " + n, x.put(0, i, i + 7L), there ? 1 : -13);
                Due.is("element " + i + " of " + n, x.element(0, i), there ? i + 7 : Long.MIN_VALUE);
            }
        }
    }

    private static void refusalsOfElements() {
        Due.says("Element i of a ROW becomes v: 1. BAD, -11, -12, -13.");
        CoinsOfLast x = withBodies(0);
        x.keep(1, 0);
        x.row(2, 3, 1);
        int[][] wants = {{-1, 0, -1}, {6, 0, -1}, {6, 99, -1}, {0, 0, -11}, {0, -1, -11}, {0, 60, -11}, {1, 0, -12}, {1, -1, -12}, {1, 60, -12},
            {2, -1, -13}, {2, 1, -13}, {2, 60, -13}, {2, 0, 1}};
        for (int[] w : wants) {
            Due.is("put(" + w[0] + ", " + w[1] + ")", x.put(w[0], w[1], 5), w[2]);
        }
        Due.says("Element i of a ROW; Long.MIN_VALUE: BAD, -11 to -13.");
        for (int[] w : wants) {
            Due.is("element(" + w[0] + ", " + w[1] + ")", x.element(w[0], w[1]), w[2] == 1 ? 5 : Long.MIN_VALUE);
        }
    }

    private static CoinsOfLast withRows(int sort, int n, int other) {
        CoinsOfLast x = new CoinsOfLast();
        x.row(0, sort, n);
        for (int i = 0; i < n; i++) {
            x.put(0, i, i + 1);
        }
        x.row(1, sort, other);
        return x;
    }

    private static void shiftPlaces() {
        Due.says("n elements of a ROW from i on come to another one (or the same) from j on");
        int[][] wants = {{0, 0, 0, 0}, {0, 0, 1, 1}, {0, 0, 3, 3}, {0, 0, 4, -13}, {3, 0, 3, 3}, {2, 0, 3, 3}, {4, 0, 3, -13}, {5, 0, 1, 1}, {6, 0, 1, -13},
            {6, 0, 0, 0}, {7, 0, 0, -13}, {-1, 0, 1, -13}, {-1, 0, 0, -13}, {0, 1, 2, 2}, {0, 1, 3, -13}, {0, 2, 1, 1}, {0, 2, 2, -13},
            {0, 3, 0, 0}, {0, 3, 1, -13}, {0, 4, 0, -13}, {0, -1, 1, -13}, {0, -1, 0, -13}, {0, 0, -1, -13}, {6, 3, 0, 0}, {6, 3, -1, -13},
            {0, 0, MAX, -13}, {0, 0, MIN, -13}, {1, 0, MAX, -13}, {0, 1, MAX, -13}, {MAX, 0, 1, -13}, {0, MAX, 1, -13},
            {MAX, MAX, MAX, -13}, {MIN, 0, 1, -13}, {0, MIN, 1, -13}, {MIN, MIN, MIN, -13}, {1, 1, MIN, -13}, {MAX, 0, 0, -13}};
        for (int[] w : wants) {
            CoinsOfLast x = withRows(2, 6, 3);
            Due.is("shift(0, " + w[0] + ", 1, " + w[1] + ", " + w[2] + ")", x.shift(0, w[0], 1, w[1], w[2]), w[3]);
            for (int i = 0; i < 3; i++) {
                boolean came = w[3] > 0 && i >= w[1] && i < w[1] + w[2];
                Due.is("element " + i, x.element(1, i), came ? w[0] + i - w[1] + 1 : 0);
            }
            for (int i = 0; i < 6; i++) {
                Due.is("the first row stays", x.element(0, i), i + 1);
            }
        }
        CoinsOfLast y = withRows(0, 60, 60);
        Due.is("61 of 60", y.shift(0, 0, 1, 0, 61), -13);
        Due.is("60 of 60", y.shift(0, 0, 1, 0, 60), 60);
        Due.is("the last one", y.element(1, 59), 60);
        CoinsOfLast z = withRows(0, 0, 0);
        Due.is("none of none", z.shift(0, 0, 1, 0, 0), 0);
        Due.is("one of none", z.shift(0, 0, 1, 0, 1), -13);
    }

    private static void shiftAsTheyAllWere() {
        Due.says("come to another one (or the same) from j on, as they all were before: n.");
        for (int sort = 0; sort < 4; sort++) {
            for (int i = 0; i <= 6; i++) {
                for (int j = 0; j <= 6; j++) {
                    int n = 6 - Math.max(i, j);
                    CoinsOfLast x = withRows(sort, 6, 0);
                    Due.is("shift(0, " + i + ", 0, " + j + ", " + n + ")", x.shift(0, i, 0, j, n), n);
                    for (int k = 0; k < 6; k++) {
                        Due.is("element " + k, x.element(0, k), k >= j && k < j + n ? i + k - j + 1 : k + 1);
                    }
                    Due.is("one too many", x.shift(0, i, 0, j, n + 1), -13);
                }
            }
        }
    }

    private static void shiftSorts() {
        Due.says("-11 (either), -12 (no ROWS, or of unlike sorts), -13.");
        CoinsOfLast x = withBodies(0);
        x.keep(1, 0);
        for (int sort = 0; sort < 5; sort++) {
            for (int other = 0; other < 5; other++) {
                x.row(2, sort, 1);
                x.row(3, other, 1);
                Due.is(sort + " to " + other, x.shift(2, 0, 3, 0, 1), sort == other ? 1 : -12);
                Due.is("unlike ones ahead of no place", x.shift(2, 2, 3, 2, 1), sort == other ? -13 : -12);
                Due.is("none, of unlike ones", x.shift(2, 0, 3, 0, 0), sort == other ? 0 : -12);
            }
        }
        int[][] wants = {{0, 2, -11}, {2, 0, -11}, {0, 0, -11}, {0, 1, -11}, {1, 0, -11}, {1, 2, -12}, {2, 1, -12}, {1, 1, -12},
            {-1, 0, -1}, {0, -1, -1}, {6, 0, -1}, {0, 6, -1}, {1, 6, -1}, {6, 1, -1}};
        for (int[] w : wants) {
            for (int n : new int[] {-1, 0, 1, 61}) {
                Due.is("shift from " + w[0] + " to " + w[1] + " of " + n, x.shift(w[0], 0, w[1], 0, n), w[2]);
                Due.is("no place", x.shift(w[0], -1, w[1], 99, n), w[2]);
            }
        }
    }

    private static void taken() {
        Due.says("What a SHELF holds, taken for a DEED of KIND k (0 .. 7), or under it: its KIND. BAD, -11, -12.");
        String[] above = {"0", "10", "20", "320", "40", "510", "640", "7320"};
        CoinsOfLast x = withBodies(0, 1, 2, 3, 4, 5, 6, 7);
        for (int kind = 0; kind < 8; kind++) {
            x.keep(1, kind);
            for (int k = 0; k < 8; k++) {
                Due.is(kind + " for " + k, x.taken(1, k), above[kind].indexOf('0' + k) >= 0 ? kind : -12);
            }
            Due.range("k", 0, 7, -1, k -> x.taken(1, k));
        }
        Due.range("k of nothing", 0, 7, -1, k -> x.taken(0, k));
        Due.is("nothing", x.taken(0, 0), -11);
        for (int sort = 0; sort < 5; sort++) {
            x.row(2, sort, 1);
            Due.is("a row", x.taken(2, 0), -12);
            Due.is("a row, no such kind", x.taken(2, 8), -1);
        }
    }

    // ---- sorts from a row

    private static CoinsOfLast withBytes(int... bytes) {
        CoinsOfLast x = new CoinsOfLast();
        x.row(4, 0, bytes.length);
        for (int i = 0; i < bytes.length; i++) {
            x.put(4, i, bytes[i]);
        }
        return x;
    }

    /** Fours of land 1, worth 1, 2 and so on, size 50, weight 51. */
    private static int[] fours(int length) {
        int[] bytes = new int[length];
        for (int i = 0; i < length; i++) {
            bytes[i] = i % 4 == 0 ? 1 : i % 4 == 1 ? i / 4 + 1 : 48 + i % 4;
        }
        return bytes;
    }

    private static void sortsAsked() {
        Due.says("n (1 .. 8) of them: how many came. BAD, -12 (no ROW of bytes; a SHELF that holds nothing is missing).");
        Due.range("n", 1, 8, -1, n -> withBytes(fours(60)).sorts(4, 0, n));
        Due.range("n of nothing", 1, 8, -1, n -> new CoinsOfLast().sorts(4, 0, n));
        for (int n = 1; n <= 8; n++) {
            CoinsOfLast x = withBytes(fours(60));
            Due.is("sorts", x.sorts(4, 0, n), n);
            Due.is("they came", x.count(0), n);
            Due.is("the last one's worth", x.of(n - 1, 1), n);
        }
        CoinsOfLast y = withBodies(0);
        y.keep(1, 0);
        Due.is("nothing is missing", y.sorts(0, 0, 1), 0);
        Due.is("a deed", y.sorts(1, 0, 1), -12);
        Due.is("a deed, bad", y.sorts(1, 0, 0), -1);
        Due.is("a deed, bad", y.sorts(1, 0, 9), -1);
        for (int sort = 0; sort < 5; sort++) {
            y.row(2, sort, 60);
            Due.is("a row of " + sort, y.sorts(2, 0, 1), sort == 0 ? 0 : -12);
            Due.is("at no place", y.sorts(2, 60, 1), sort == 0 ? 0 : -12);
        }
        Due.is("no sort came", y.count(0), 0);
    }

    private static void sortsEndWithTheRow() {
        Due.says("it ends where the row is missing, ends (within a four, too), one is not so, or SORTS are FULL: those ahead came.");
        for (int length = 0; length <= 13; length++) {
            CoinsOfLast x = withBytes(fours(length));
            Due.is("of " + length + " bytes", x.sorts(4, 0, 8), length / 4);
            Due.is("came", x.count(0), length / 4);
            for (int s = 0; s < length / 4; s++) {
                Due.is("land", x.of(s, 0), 1);
                Due.is("worth", x.of(s, 1), s + 1);
                Due.is("size", x.of(s, 2), 50);
                Due.is("weight", x.of(s, 3), 51);
            }
        }
        Due.is("of 31 bytes", withBytes(fours(31)).sorts(4, 0, 8), 7);
        Due.is("of 32 bytes", withBytes(fours(32)).sorts(4, 0, 8), 8);
        Due.is("of 33 bytes", withBytes(fours(33)).sorts(4, 0, 8), 8);
        Due.is("the row is missing", new CoinsOfLast().sorts(4, 0, 8), 0);
    }

    private static void sortsEndWithABadOne() {
        Due.says("SORTS FROM A ROW of bytes, from a place on: by fours LAND, WORTH, SIZE, WEIGHT");
        int[] least = {0, 1, 0, 0};
        int[] most = {3, 40, 99, 99};
        for (int part = 0; part < 4; part++) {
            for (int v : new int[] {-128, -1, 0, least[part] - 1, least[part], least[part] + 1, most[part] - 1, most[part], most[part] + 1, 127}) {
                boolean good = v >= least[part] && v <= most[part];
                for (int four = 0; four < 3; four++) {
                    int[] bytes = fours(12);
                    bytes[4 * four + part] = v;
                    CoinsOfLast x = withBytes(bytes);
                    Due.is(v + " as part " + part + " of the four " + four, x.sorts(4, 0, 8), good ? 3 : four);
                    Due.is("came", x.count(0), good ? 3 : four);
                    Due.is("it is", x.of(four, part), good ? v : -1);
                }
            }
        }
    }

    private static void sortsEndWhenFull() {
        Due.says("or SORTS are FULL: those ahead came.");
        for (int known = 0; known <= 8; known++) {
            CoinsOfLast x = withBytes(fours(60));
            for (int s = 0; s < known; s++) {
                x.sort(340, 0);
            }
            for (int n = 1; n <= 8; n++) {
                int before = x.count(0);
                int came = Math.min(n, 8 - before);
                Due.is(n + " with " + before, x.sorts(4, 0, n), came);
                Due.is("sorts", x.count(0), before + came);
            }
            Due.is("full", x.sort(101, 0), -3);
            Due.is("those that were", x.of(0, 1), known == 0 ? 1 : 40);
        }
    }

    private static void sortsFromAPlace() {
        Due.says("SORTS FROM A ROW on a SHELF, from place i on");
        for (int i = 0; i <= 13; i++) {
            int[] bytes = new int[i + 8];
            System.arraycopy(fours(8), 0, bytes, i, 8);
            CoinsOfLast x = withBytes(bytes);
            Due.is("from " + i, x.sorts(4, i, 8), 2);
            Due.is("the first one's land", x.of(0, 0), 1);
            Due.is("the second one's worth", x.of(1, 1), 2);
            Due.is("the last four", x.sorts(4, i + 4, 8), 1);
            Due.is("its worth", x.of(2, 1), 2);
            for (int behind = 5; behind <= 9; behind++) {
                Due.is("within the last four and behind", x.sorts(4, i + behind, 8), 0);
            }
            Due.is("came", x.count(0), 3);
        }
        CoinsOfLast y = withBytes(fours(60));
        for (int i : new int[] {-1, -4, MIN, 57, 58, 59, 60, 61, MAX - 3, MAX}) {
            Due.is("from " + i, y.sorts(4, i, 8), 0);
        }
        Due.is("none came", y.count(0), 0);
        Due.is("from 56", y.sorts(4, 56, 8), 1);
    }

    // ---- count

    private static void count() {
        Due.says("How many: 0 SORTS, 1 THINGS, 2 coins in THE PURSE, 3 bytes on THE TAPE, 4 changes that may be UNDONE, 5 BODIES");
        Due.range("what", 0, 6, -1, what -> new CoinsOfLast().count(what));
        CoinsOfLast x = new CoinsOfLast();
        for (int what = 0; what < 7; what++) {
            Due.is("at first " + what, x.count(what), 0);
        }
        x.sort(101, 0);
        Due.is("sorts", x.count(0), 1);
        x.thing(1001, 0);
        Due.is("things", x.count(1), 1);
        x.purse(0, 1);
        Due.is("coins", x.count(2), 1);
        x.feed(0);
        Due.is("bytes", x.count(3), 1);
        x.mend(0, 1, 1);
        Due.is("changes", x.count(4), 1);
        x.body(0);
        Due.is("bodies", x.count(5), 1);
        Due.says("6 bodies that ran in the latest act() (all, kept or not). BAD.");
        x.act(0, 0, 0);
        Due.is("ran", x.count(6), 1);
        x.act(0, 3, 0);
        Due.is("ran", x.count(6), 4);
        x.act(1, 0, 0);
        Due.is("ran", x.count(6), 0);
        x.undo();
        Due.is("changes", x.count(4), 0);
        x.law(0);
        Due.is("bytes", x.count(3), 0);
        x.give(1);
        Due.is("coins", x.count(2), 0);
        Due.is("sorts", x.count(0), 1);
        Due.is("things", x.count(1), 1);
        Due.is("bodies", x.count(5), 1);
    }
}
