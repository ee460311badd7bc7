/**
 * Calls with numbers of all sizes: none throws, and what is refused changes nothing.
 * A twin gets only the calls that the first object did not refuse; both stay alike.
 */
public final class WildCallsTest {
    private static final int RUNS = 900, CALLS = 260;

    private static final String SIGNS = "abdwlsy0123456789!-()+*/%<=>&|?;a+1b*2d?3;4%5";

    private static long seed = 41L;

    private WildCallsTest() {
    }

    private static int below(int n) {
        seed = seed * 6364136223846793005L + 1442695040888963407L;
        return (int) ((seed >>> 33) % n);
    }

    private static int wild(int most) {
        switch (below(24)) {
            case 0: return -1 - below(3);
            case 1: return most + below(3);
            case 2: return Integer.MAX_VALUE - below(3);
            case 3: return Integer.MIN_VALUE + below(3);
            case 4: return (int) (below(65536) * 65537L * (1 + below(3)));
            default: return below(most);
        }
    }

    public static void main(String[] args) {
        for (int run = 0; run < RUNS; run++) {
            CoinsOfLast x = new CoinsOfLast();
            CoinsOfLast twin = new CoinsOfLast();
            for (int n = 0; n < CALLS; n++) {
                int call = below(42);
                int[] a = arguments(call);
                long answer = ask(x, call, a);
                // Only an act is free to answer any number.
                boolean refused = call != 32 && (answer < 0 && answer >= -14 || answer == -2000000000L || answer == Long.MIN_VALUE);
                if (!refused) {
                    Due.is("run " + run + ", call " + call, ask(twin, call, a), answer);
                }
            }
            alike(run, x, twin);
        }
        Due.close();
    }

    private static int[] arguments(int call) {
        int[][] most = {
            {400, 10000}, {6, 10, 9}, {8, 7}, {4000, 1000}, {4, 3}, {2, 100}, {8, 5, 100}, {10, 22}, {256}, {2}, {34, 10000},
            {40000, 2, 9}, {4, 2}, {4, 2, 3}, {10}, {8, 100}, {8, 100, 10000, 2},
            {10000, 34, 10000}, {10000, 34, 10000, 2}, {10000, 4, 10000, 2}, {10000, 34, 1000000, 2}, {40000, 10000}, {102},
            {40000, 21, 1981}, {4}, {3}, {}, {}, {}, {}, {}, {8}, {50, 4, 1000}, {24}, {6, 10}, {6, 5, 61}, {6, 60, 50}, {6, 60},
            {6, 20, 6, 20, 20}, {6, 8}, {7}, {256},
        };
        int[] a = new int[most[call].length];
        for (int i = 0; i < a.length; i++) {
            a[i] = wild(most[call][i]);
        }
        if (call == 41 || call == 8 && below(4) != 0) {
            a[0] = SIGNS.charAt(below(SIGNS.length()));
        }
        return a;
    }

    private static long ask(CoinsOfLast x, int call, int[] a) {
        switch (call) {
            case 0: return x.sort(a[0], a[1]);
            case 1: return x.sorts(a[0], a[1], a[2]);
            case 2: return x.purse(a[0], a[1]);
            case 3: return x.thing(a[0], a[1]);
            case 4: return x.rule(a[0], a[1]);
            case 5: return x.window(a[0], a[1]);
            case 6: return x.mend(a[0], a[1], a[2]);
            case 7: return x.of(a[0], a[1]);
            case 8: case 41: return x.feed(a[0]);
            case 9: return x.law(a[0]);
            case 10: return x.rate(a[0], a[1]);
            case 11: return x.paid(a[0], a[1], a[2] - 1);
            case 12: return x.amounts(a[0], a[1]);
            case 13: return x.spend(a[0], a[1], a[2]);
            case 14: return x.buy(a[0]);
            case 15: return x.like(a[0], a[1]);
            case 16: return x.standIn(a[0], a[1], a[2], a[3]);
            case 17: return x.change(a[0], a[1], a[2]);
            case 18: return x.way(a[0], a[1], a[2], a[3]);
            case 19: return x.round(a[0], a[1], a[2], a[3]);
            case 20: return x.waits(a[0], a[1], a[2], a[3]);
            case 21: return x.swap(a[0], a[1]);
            case 22: return x.kept(a[0]);
            case 23: return x.heap(a[0], a[1], a[2]);
            case 24: return x.give(a[0]);
            case 25: return x.led(a[0]);
            case 26: return x.image();
            case 27: return x.back();
            case 28: return x.undo();
            case 29: return x.redo();
            case 30: return x.count(6);
            case 31: return x.body(a[0]);
            case 32: return x.act(a[0], a[1], a[2]);
            case 33: return x.trace(a[0]);
            case 34: return x.keep(a[0], a[1] - 1);
            case 35: return x.row(a[0], a[1], a[2]);
            case 36: return x.put(a[0], a[1], a[2] * 4294967299L);
            case 37: return x.element(a[0], a[1]);
            case 38: return x.shift(a[0], a[1], a[2], a[3], a[4]);
            case 39: return x.taken(a[0], a[1]);
            default: return x.count(a[0]);
        }
    }

    private static void alike(int run, CoinsOfLast x, CoinsOfLast twin) {
        String of = "run " + run + ": ";
        for (int what = 0; what < 7; what++) {
            Due.is(of + "count", x.count(what), twin.count(what));
        }
        for (int n = 0; n < 10; n++) {
            for (int what = 0; what < 22; what++) {
                Due.is(of + "of " + what, x.of(n, what), twin.of(n, what));
            }
        }
        for (int what = 0; what < 3; what++) {
            Due.is(of + "led", x.led(what), twin.led(what));
        }
        for (int shelf = 0; shelf < 6; shelf++) {
            Due.is(of + "taken", x.taken(shelf, 0), twin.taken(shelf, 0));
        }
        Due.is(of + "kept", x.kept(101), twin.kept(101));
        Due.is(of + "round", x.round(9999, 1, 5, 0), twin.round(9999, 1, 5, 0));
    }
}
