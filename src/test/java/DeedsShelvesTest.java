/** Promises 32 to 41: deeds and shelves. */
public final class DeedsShelvesTest {
    public static void main(String[] args) {
        body();
        actsOfAllKinds();
        actTraces();
        actRefused();
        keepAndTaken();
        row();
        putAndElement();
        elementRefused();
        shift();
        shiftRefused();
        count();
        Due.close();
    }

    private static void body() {
        CoinsOfLast x = new CoinsOfLast();
        Due.is("kind -1", x.body(-1), -1);
        Due.is("kind 8", x.body(8), -1);
        for (int n = 0; n < 50; n++) {
            Due.is("body", x.body(n % 8), n);
        }
        Due.is("full", x.body(0), -3);
        Due.is("bad ahead of full", x.body(8), -1);
        Due.is("bodies", x.count(5), 50);
    }

    // The kinds once more as classes of Java: what they answer is what is due.
    private static StringBuilder ran = new StringBuilder();

    private static void ran(int body) {
        ran.append(body).append(' ');
    }

    private interface Pays {
        int number();

        default int pays(int x) {
            ran(1);
            return x + number();
        }
    }

    private interface Tells {
        int changes(int x);

        int swaps(int x);

        default int tells(int x) {
            ran(2);
            return changes(x) - swaps(1);
        }
    }

    private static class Deed implements Pays, Tells {
        private final int n;

        Deed(int n) {
            this.n = n;
        }

        public int number() {
            return n;
        }

        public int changes(int x) {
            ran(10);
            return pays(x) * 2;
        }

        public int swaps(int x) {
            ran(11);
            return x ^ n;
        }
    }

    private static class Paid extends Deed {
        Paid(int n) {
            super(n);
        }

        public int pays(int x) {
            ran(20);
            return super.pays(x) + 3;
        }
    }

    private static class Changed extends Deed {
        Changed(int n) {
            super(n);
        }

        public int changes(int x) {
            ran(30);
            return -super.changes(x);
        }
    }

    private static class Swapped extends Changed {
        Swapped(int n) {
            super(n);
        }

        public int swaps(int x) {
            ran(40);
            return super.swaps(x) * 3;
        }

        public int changes(int x) {
            ran(41);
            return super.changes(x + 1);
        }
    }

    private static class Given extends Deed {
        Given(int n) {
            super(n);
        }

        public int swaps(int x) {
            ran(50);
            return super.swaps(x) - pays(2);
        }
    }

    private static final class Rounded extends Paid {
        Rounded(int n) {
            super(n);
        }

        public int tells(int x) {
            ran(60);
            return super.tells(x) ^ 5;
        }
    }

    private static final class Kept extends Given {
        Kept(int n) {
            super(n);
        }

        public int pays(int x) {
            ran(70);
            return super.pays(x) * 2;
        }
    }

    private static final class Mistaken extends Swapped {
        Mistaken(int n) {
            super(n);
        }

        public int changes(int x) {
            ran(80);
            return super.changes(x) + swaps(2);
        }

        public int tells(int x) {
            ran(81);
            return super.tells(x) - 1;
        }
    }

    private static Deed deed(int kind, int n) {
        switch (kind) {
            case 0: return new Deed(n);
            case 1: return new Paid(n);
            case 2: return new Changed(n);
            case 3: return new Swapped(n);
            case 4: return new Given(n);
            case 5: return new Rounded(n);
            case 6: return new Kept(n);
            default: return new Mistaken(n);
        }
    }

    private static int answer(Deed deed, int act, int x) {
        switch (act) {
            case 0: return deed.pays(x);
            case 1: return deed.changes(x);
            case 2: return deed.swaps(x);
            default: return deed.tells(x);
        }
    }

    private static void actsOfAllKinds() {
        for (int n = 0; n < 50; n++) {
            for (int act = 0; act < 4; act++) {
                acts(n, act);
            }
        }
    }

    private static int kindOf(int n) {
        return (n * 3 + n / 8) % 8;
    }

    private static void acts(int n, int act) {
        CoinsOfLast x = new CoinsOfLast();
        for (int i = 0; i < 50; i++) {
            x.body(kindOf(i));
        }
        Deed due = deed(kindOf(n), n);
        for (int v : new int[] {0, 1, -1, 7, -100, 12345, Integer.MAX_VALUE, Integer.MIN_VALUE, 0x40000000}) {
            ran.setLength(0);
            int want = answer(due, act, v);
            String call = "act(" + n + ", " + act + ", " + v + ")";
            Due.is(call, x.act(n, act, v), want);
            String[] bodies = ran.toString().trim().split(" ");
            Due.is("bodies of " + call, x.count(6), bodies.length);
            for (int i = 0; i < 26; i++) {
                int body = i < bodies.length && i < 24 ? Integer.parseInt(bodies[i]) : -1;
                Due.is("trace " + i + " of " + call, x.trace(i), body);
            }
        }
    }

    private static void traces(CoinsOfLast x, int... want) {
        Due.is("bodies that ran", x.count(6), want.length);
        for (int i = 0; i < want.length; i++) {
            Due.is("trace " + i, x.trace(i), want[i]);
        }
        Due.is("behind the trace", x.trace(want.length), -1);
        Due.is("ahead of the trace", x.trace(-1), -1);
    }

    private static void actTraces() {
        CoinsOfLast x = new CoinsOfLast();
        for (int kind = 0; kind < 8; kind++) {
            x.body(kind);
        }
        Due.is("deed 0 tells", x.act(0, 3, 5), 10 - 1);
        traces(x, 2, 10, 1, 11);
        Due.is("paid pays", x.act(1, 0, 5), 9);
        traces(x, 20, 1);
        Due.is("changed changes", x.act(2, 1, 5), -14);
        traces(x, 30, 10, 1);
        Due.is("swapped swaps", x.act(3, 2, 5), 18);
        traces(x, 40, 11);
        Due.is("given swaps", x.act(4, 2, 5), 1 - 6);
        traces(x, 50, 11, 1);
        Due.is("rounded tells", x.act(5, 3, 5), (26 - 4) ^ 5);
        traces(x, 60, 2, 10, 20, 1, 11);
        Due.is("kept swaps", x.act(6, 2, 5), 3 - 16);
        traces(x, 50, 11, 70, 1);
        // 80: 41: 30: 10: pays(6) * 2 = 26, less: -26; swaps(2) = 15; 81: -11 - 18 - 1.
        Due.is("mistaken tells", x.act(7, 3, 5), -30);
        traces(x, 81, 2, 80, 41, 30, 10, 1, 40, 11, 40, 11);
    }

    private static void actRefused() {
        CoinsOfLast x = new CoinsOfLast();
        Due.is("no deed", x.act(0, 0, 5), 0);
        x.body(0);
        int[][] bad = {{1, 0}, {-1, 0}, {50, 0}, {0, 4}, {0, -1}, {Integer.MAX_VALUE, 0}, {0, Integer.MIN_VALUE}};
        for (int[] b : bad) {
            Due.is("act", x.act(0, 0, 5), 5);
            Due.is("ran", x.count(6), 1);
            Due.is("act bad", x.act(b[0], b[1], 5), 0);
            Due.is("none ran", x.count(6), 0);
            Due.is("no trace", x.trace(0), -1);
        }
        Due.is("trace far", x.trace(Integer.MAX_VALUE), -1);
        Due.is("trace below", x.trace(Integer.MIN_VALUE), -1);
    }

    private static void keepAndTaken() {
        CoinsOfLast x = new CoinsOfLast();
        Due.is("no body", x.keep(0, 0), -1);
        for (int kind = 0; kind < 8; kind++) {
            x.body(kind);
        }
        Due.is("body 8", x.keep(0, 8), -1);
        Due.is("body -2", x.keep(0, -2), -1);
        Due.is("shelf 6", x.keep(6, 0), -1);
        Due.is("shelf -1", x.keep(-1, 0), -1);
        Due.is("taken of nothing", x.taken(0, 0), -11);
        Due.is("taken shelf 6", x.taken(6, 0), -1);
        Due.is("taken shelf -1", x.taken(-1, 0), -1);
        Due.is("taken kind 8", x.taken(0, 8), -1);
        Due.is("taken kind -1", x.taken(0, -1), -1);
        boolean[][] under = new boolean[8][8];
        int[][] pairs = {{1, 0}, {2, 0}, {3, 2}, {3, 0}, {4, 0}, {5, 1}, {5, 0}, {6, 4}, {6, 0}, {7, 3}, {7, 2}, {7, 0}};
        for (int[] p : pairs) {
            under[p[0]][p[1]] = true;
        }
        for (int kind = 0; kind < 8; kind++) {
            Due.is("keep", x.keep(2, kind), 1);
            for (int k = 0; k < 8; k++) {
                Due.is(kind + " for " + k, x.taken(2, k), k == kind || under[kind][k] ? kind : -12);
            }
        }
        Due.is("a deed is no row", x.put(2, 0, 1), -12);
        Due.is("nothing again", x.keep(2, -1), 1);
        Due.is("nothing", x.taken(2, 0), -11);
        x.row(2, 0, 3);
        Due.is("a row is no deed", x.taken(2, 0), -12);
        x.keep(2, 5);
        Due.is("a deed again", x.taken(2, 1), 5);
    }

    private static void row() {
        CoinsOfLast x = new CoinsOfLast();
        Due.is("shelf 6", x.row(6, 0, 0), -1);
        Due.is("shelf -1", x.row(-1, 0, 0), -1);
        Due.is("sort 5", x.row(0, 5, 0), -1);
        Due.is("sort -1", x.row(0, -1, 0), -1);
        Due.is("n 61", x.row(0, 0, 61), -1);
        Due.is("n far", x.row(0, 0, Integer.MAX_VALUE), -1);
        Due.is("n -1", x.row(0, 0, -1), -14);
        Due.is("n below", x.row(0, 4, Integer.MIN_VALUE), -14);
        Due.is("bad ahead of a size below 0", x.row(0, 5, -1), -1);
        Due.is("nothing came", x.put(0, 0, 0), -11);
        for (int sort = 0; sort < 5; sort++) {
            Due.is("row", x.row(0, sort, 60), 1);
            for (int i = 0; i < 60; i++) {
                Due.is("0 at first", x.element(0, i), 0);
            }
            Due.is("put", x.put(0, 59, 1), 1);
            Due.is("put", x.put(0, 0, 1), 1);
            Due.is("behind the end", x.put(0, 60, 1), -13);
        }
        Due.is("an empty row", x.row(0, 2, 0), 1);
        Due.is("no place", x.put(0, 0, 1), -13);
        Due.is("a longer row", x.row(0, 2, 60), 1);
        Due.is("is empty", x.element(0, 59), 0);
    }

    private static void putAndElement() {
        CoinsOfLast x = new CoinsOfLast();
        long[] values = {0, 1, -1, 127, 128, 255, 256, 32767, 32768, 65536, 2147483647L, 2147483648L, 4294967296L,
            Long.MAX_VALUE, Long.MIN_VALUE, -129, 0x123456789ABCDEFL};
        for (int shelf = 0; shelf < 5; shelf++) {
            x.row(shelf, shelf, 3);
        }
        for (long v : values) {
            for (int shelf = 0; shelf < 5; shelf++) {
                Due.is("put", x.put(shelf, 2, v), 1);
            }
            Due.is("byte", x.element(0, 2), (byte) v);
            Due.is("short", x.element(1, 2), (short) v);
            Due.is("int", x.element(2, 2), (int) v);
            Due.is("long", x.element(3, 2), v);
            Due.is("boolean", x.element(4, 2), v != 0 ? 1 : 0);
        }
        Due.is("the others stay", x.element(3, 1), 0);
    }

    private static void elementRefused() {
        CoinsOfLast x = new CoinsOfLast();
        x.body(0);
        x.keep(1, 0);
        x.row(2, 3, 4);
        int[][] bad = {{-1, 0, -1}, {6, 0, -1}, {0, 0, -11}, {0, -1, -11}, {1, 0, -12}, {1, 99, -12}, {2, 4, -13}, {2, -1, -13},
            {2, Integer.MAX_VALUE, -13}, {2, Integer.MIN_VALUE, -13}};
        for (int[] b : bad) {
            Due.is("put(" + b[0] + ", " + b[1] + ")", x.put(b[0], b[1], 7), b[2]);
            Due.is("element(" + b[0] + ", " + b[1] + ")", x.element(b[0], b[1]), Long.MIN_VALUE);
        }
        Due.is("last place", x.put(2, 3, Long.MIN_VALUE), 1);
        Due.is("last place", x.element(2, 3), Long.MIN_VALUE);
    }

    private static void fill(CoinsOfLast x, int shelf, int sort, int n, int first) {
        x.row(shelf, sort, n);
        for (int i = 0; i < n; i++) {
            x.put(shelf, i, first + i);
        }
    }

    private static void elements(CoinsOfLast x, int shelf, long... want) {
        for (int i = 0; i < want.length; i++) {
            Due.is("element " + i, x.element(shelf, i), want[i]);
        }
        Due.is("its end", x.element(shelf, want.length), Long.MIN_VALUE);
    }

    private static void shift() {
        CoinsOfLast x = new CoinsOfLast();
        fill(x, 0, 2, 6, 1);
        fill(x, 1, 2, 4, 11);
        Due.is("shift", x.shift(0, 1, 1, 2, 2), 2);
        elements(x, 1, 11, 12, 2, 3);
        elements(x, 0, 1, 2, 3, 4, 5, 6);
        Due.is("upward in itself", x.shift(0, 0, 0, 2, 4), 4);
        elements(x, 0, 1, 2, 1, 2, 3, 4);
        fill(x, 0, 2, 6, 1);
        Due.is("downward in itself", x.shift(0, 2, 0, 0, 4), 4);
        elements(x, 0, 3, 4, 5, 6, 5, 6);
        Due.is("none", x.shift(0, 6, 1, 4, 0), 0);
        Due.is("all", x.shift(1, 0, 0, 2, 4), 4);
        elements(x, 0, 3, 4, 11, 12, 2, 3);
        x.row(3, 4, 60);
        x.row(4, 4, 60);
        x.put(3, 59, 9);
        Due.is("booleans", x.shift(3, 0, 4, 0, 60), 60);
        Due.is("the last one", x.element(4, 59), 1);
    }

    private static void shiftRefused() {
        CoinsOfLast x = new CoinsOfLast();
        x.body(0);
        fill(x, 0, 2, 6, 1);
        fill(x, 1, 2, 4, 11);
        fill(x, 2, 1, 4, 11);
        x.keep(3, 0);
        int[][] bad = {{-1, 0, 1, 0, 1, -1}, {6, 0, 1, 0, 1, -1}, {0, 0, -1, 0, 1, -1}, {0, 0, 6, 0, 1, -1}, {4, 0, 6, 0, 1, -1},
            {4, 0, 0, 0, 1, -11}, {0, 0, 4, 0, 1, -11}, {3, 0, 4, 0, 1, -11}, {4, 0, 3, 0, 1, -11}, {4, 0, 4, 0, 0, -11},
            {3, 0, 0, 0, 1, -12}, {0, 0, 3, 0, 1, -12}, {3, 0, 3, 0, 0, -12}, {0, 0, 2, 0, 1, -12}, {0, 9, 2, 9, 99, -12},
            {0, -1, 1, 0, 1, -13}, {0, 0, 1, -1, 1, -13}, {0, 6, 1, 0, 1, -13}, {0, 0, 1, 4, 1, -13}, {0, 3, 1, 0, 4, -13},
            {0, 0, 1, 1, 4, -13}, {0, 0, 1, 0, -1, -13}, {0, 7, 1, 0, 0, -13}, {0, 0, 1, 5, 0, -13},
            {0, 1, 1, 1, Integer.MAX_VALUE, -13}, {0, Integer.MAX_VALUE, 1, 0, 1, -13}, {0, 0, 1, Integer.MAX_VALUE, Integer.MAX_VALUE, -13},
            {0, Integer.MIN_VALUE, 1, 0, 0, -13}, {0, 0, 0, 0, Integer.MIN_VALUE, -13}};
        for (int[] b : bad) {
            Due.is("shift(" + b[0] + ", " + b[1] + ", " + b[2] + ", " + b[3] + ", " + b[4] + ")",
                x.shift(b[0], b[1], b[2], b[3], b[4]), b[5]);
        }
        elements(x, 1, 11, 12, 13, 14);
        elements(x, 0, 1, 2, 3, 4, 5, 6);
        for (int sort = 0; sort < 5; sort++) {
            x.row(5, sort, 1);
            x.row(3, sort, 1);
            x.keep(3, 0);
            Due.is("a deed is no row", x.shift(5, 0, 3, 0, 1), -12);
            Due.is("a deed is no row", x.shift(3, 0, 5, 0, 1), -12);
            for (int other = 0; other < 5; other++) {
                x.row(4, other, 1);
                Due.is("rows of sorts", x.shift(5, 0, 4, 0, 1), sort == other ? 1 : -12);
            }
        }
    }

    private static void count() {
        CoinsOfLast x = new CoinsOfLast();
        Due.is("what -1", x.count(-1), -1);
        Due.is("what 7", x.count(7), -1);
        x.sort(101, 0);
        x.sort(202, 0);
        x.purse(0, 4);
        x.purse(1, 5);
        x.thing(1001, 9);
        x.thing(1001, 9);
        x.thing(1001, 9);
        Due.tape(x, "1+1");
        x.feed('+');
        x.mend(0, 0, 5);
        x.mend(0, 0, 6);
        x.mend(0, 0, 7);
        x.mend(0, 0, 8);
        x.mend(0, 0, 9);
        x.undo();
        for (int n = 0; n < 6; n++) {
            x.body(7);
        }
        x.act(5, 1, 3);
        int[] want = {2, 3, 9, 4, 4, 6, 7};
        for (int what = 0; what < 7; what++) {
            Due.is("count(" + what + ")", x.count(what), want[what]);
        }
    }
}
