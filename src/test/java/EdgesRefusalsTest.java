/** What is refused changes nothing, and of several refusals the one named first is answered. */
public final class EdgesRefusalsTest {
    private static final int MAX = Integer.MAX_VALUE, MIN = Integer.MIN_VALUE;

    /** A call on an object. */
    private interface Call {
        long on(CoinsOfLast x);
    }

    public static void main(String[] args) {
        badCoins();
        badPaying();
        badChanging();
        badDeeds();
        notAndState();
        full();
        hostsRefusals();
        faultKeepsTheLaws();
        actKeepsAllButTheTrace();
        namedFirst();
        askingChangesNothing();
        eachObjectItsOwn();
        Due.close();
    }

    /** An object with some of all: sorts, things, laws, an image, changes done and undone, deeds, shelves, a trace, a tape. */
    private static CoinsOfLast some() {
        CoinsOfLast x = new CoinsOfLast();
        x.sort(110, 2030);
        x.sort(103, 2131);
        x.sort(207, 2232);
        x.purse(0, 2);
        x.purse(1, 3);
        x.purse(2, 6);
        x.thing(1012, 503);
        x.thing(2200, 401);
        x.thing(1001, 300);
        Due.law(x, 0, "900+a*10+d");
        Due.law(x, 1, "w+y");
        x.rule(2, 1);
        x.window(0, 5);
        x.window(1, 2);
        x.image();
        x.give(2);
        x.mend(0, 1, 21);
        x.mend(0, 4, 51);
        x.mend(1, 2, 32);
        x.undo();
        x.body(7);
        x.body(1);
        x.act(0, 3, 5);
        x.keep(1, 0);
        x.row(2, 0, 6);
        x.put(2, 5, 77);
        x.row(3, 1, 3);
        x.put(3, 0, 78);
        Due.tape(x, "1+");
        return x;
    }

    /** All that can be asked without changing it, as one number. */
    private static long seen(CoinsOfLast x) {
        long all = 17;
        for (int what = 0; what < 7; what++) {
            all = all * 1000003 + x.count(what);
        }
        for (int n = 0; n < 10; n++) {
            for (int what : new int[] {0, 1, 2, 3, 4, 10, 11, 12, 13, 20, 21}) {
                if (n < 3 || what == 13 && n < 4 || what == 0) {
                    all = all * 1000003 + x.of(n, what);
                }
            }
        }
        for (int what = 0; what < 3; what++) {
            all = all * 1000003 + x.led(what);
        }
        for (int i = 0; i < 12; i++) {
            all = all * 1000003 + x.trace(i);
        }
        for (int shelf = 0; shelf < 6; shelf++) {
            all = all * 1000003 + x.taken(shelf, 0);
            for (int i = 0; i < 7; i++) {
                all = all * 1000003 + x.element(shelf, i);
            }
        }
        all = all * 1000003 + x.change(9999, 12, 77);
        all = all * 1000003 + x.rate(30, 9);
        all = all * 1000003 + x.kept(60);
        return all;
    }

    /** What only changing calls can tell: what is still to be undone and done again, the image, the tape. */
    private static long tells(CoinsOfLast x) {
        long all = x.redo();
        all = all * 1000003 + x.of(1, 3);
        all = all * 1000003 + x.redo();
        for (int n = 0; n < 4; n++) {
            all = all * 1000003 + x.undo();
            all = all * 1000003 + x.of(0, 2) * 100 + x.of(0, 12);
        }
        all = all * 1000003 + x.back();
        all = all * 1000003 + x.count(2);
        all = all * 1000003 + x.feed('9');
        all = all * 1000003 + x.law(0);
        all = all * 1000003 + x.rate(12, 3);
        all = all * 1000003 + x.window(0, 0);
        all = all * 1000003 + x.window(1, 0);
        return all;
    }

    private static void refused(String call, long want, Call asks) {
        CoinsOfLast x = some();
        CoinsOfLast twin = some();
        long before = seen(x);
        Due.is(call, asks.on(x), want);
        Due.is("what is seen behind " + call, seen(x), before);
        Due.is("what is told behind " + call, tells(x), tells(twin));
    }

    private static void badCoins() {
        Due.says("BAD (-1): no such number, or it is not as said; ... What is answered so changes nothing.");
        refused("sort(400, 0)", -1, x -> x.sort(400, 0));
        refused("sort(141, 0)", -1, x -> x.sort(141, 0));
        refused("sort(100, 0)", -1, x -> x.sort(100, 0));
        refused("sort(101, 10000)", -1, x -> x.sort(101, 10000));
        refused("sort(101, -1)", -1, x -> x.sort(101, -1));
        refused("sorts(6, 0, 1)", -1, x -> x.sorts(6, 0, 1));
        refused("sorts(2, 0, 0)", -1, x -> x.sorts(2, 0, 0));
        refused("sorts(2, 0, 9)", -1, x -> x.sorts(2, 0, 9));
        refused("purse(0, 7)", -1, x -> x.purse(0, 7));
        refused("purse(0, -1)", -1, x -> x.purse(0, -1));
        refused("purse(3, 1)", -1, x -> x.purse(3, 1));
        refused("purse(-1, 1)", -1, x -> x.purse(-1, 1));
        refused("thing(4001, 0)", -1, x -> x.thing(4001, 0));
        refused("thing(1201, 0)", -1, x -> x.thing(1201, 0));
        refused("thing(1001, 1000)", -1, x -> x.thing(1001, 1000));
        refused("rule(2, 3)", -1, x -> x.rule(2, 3));
        refused("rule(4, 1)", -1, x -> x.rule(4, 1));
        refused("window(0, 100)", -1, x -> x.window(0, 100));
        refused("window(1, -1)", -1, x -> x.window(1, -1));
        refused("window(2, 1)", -1, x -> x.window(2, 1));
        refused("mend(0, 0, 41)", -1, x -> x.mend(0, 0, 41));
        refused("mend(0, 0, 0)", -1, x -> x.mend(0, 0, 0));
        refused("mend(0, 3, 201)", -1, x -> x.mend(0, 3, 201));
        refused("mend(3, 1, 5)", -1, x -> x.mend(3, 1, 5));
        refused("mend(3, 4, 5)", -1, x -> x.mend(3, 4, 5));
        refused("mend(0, 5, 5)", -1, x -> x.mend(0, 5, 5));
        refused("of(3, 0)", -1, x -> x.of(3, 0));
        refused("feed(256)", -1, x -> x.feed(256));
        refused("feed(-1)", -1, x -> x.feed(-1));
        refused("law(2)", -1, x -> x.law(2));
        refused("law(-1)", -1, x -> x.law(-1));
        refused("rate(40, 0)", -1, x -> x.rate(40, 0));
    }

    private static void badPaying() {
        Due.says("BAD (-1): no such number, or it is not as said; ... What is answered so changes nothing.");
        refused("paid(40000, 0, -1)", -1, x -> x.paid(40000, 0, -1));
        refused("paid(10010, 2, -1)", -1, x -> x.paid(10010, 2, -1));
        refused("paid(10010, 0, 3)", -1, x -> x.paid(10010, 0, 3));
        refused("amounts(4, 0)", -1, x -> x.amounts(4, 0));
        refused("spend(1, 2, 0)", -1, x -> x.spend(1, 2, 0));
        refused("buy(3)", -1, x -> x.buy(3));
        refused("buy(-1)", -1, x -> x.buy(-1));
        refused("like(0, 100)", -1, x -> x.like(0, 100));
        refused("standIn(0, 100, 0, 0)", -2000000000, x -> x.standIn(0, 100, 0, 0));
        refused("standIn(3, 9, 0, 0)", -2000000000, x -> x.standIn(3, 9, 0, 0));
        refused("standIn(0, 0, 0, 0)", -1, x -> x.standIn(0, 0, 0, 0));
    }

    private static void badChanging() {
        Due.says("BAD (-1): no such number, or it is not as said; ... What is answered so changes nothing.");
        refused("change(10000, 12, 0)", -1, x -> x.change(10000, 12, 0));
        refused("change(5, 11, 0)", -1, x -> x.change(5, 11, 0));
        refused("way(5, 12, 10000, 0)", -1, x -> x.way(5, 12, 10000, 0));
        refused("round(5, 4, 0, 0)", -1, x -> x.round(5, 4, 0, 0));
        refused("waits(5, 12, 61, 0)", -1, x -> x.waits(5, 12, 61, 0));
        refused("swap(10010, 10000)", -1, x -> x.swap(10010, 10000));
        refused("kept(61)", -1, x -> x.kept(61));
        refused("heap(11201, 0, 0)", -1, x -> x.heap(11201, 0, 0));
        refused("heap(10000, 21, 0)", -1, x -> x.heap(10000, 21, 0));
        refused("give(4)", -1, x -> x.give(4));
        refused("give(-1)", -1, x -> x.give(-1));
        refused("led(3)", -1, x -> x.led(3));
    }

    private static void badDeeds() {
        Due.says("BAD (-1): no such number, or it is not as said; ... What is answered so changes nothing.");
        refused("body(8)", -1, x -> x.body(8));
        refused("body(-1)", -1, x -> x.body(-1));
        refused("trace(11)", -1, x -> x.trace(11));
        refused("keep(1, 2)", -1, x -> x.keep(1, 2));
        refused("keep(1, -2)", -1, x -> x.keep(1, -2));
        refused("keep(6, -1)", -1, x -> x.keep(6, -1));
        refused("row(2, 5, 6)", -1, x -> x.row(2, 5, 6));
        refused("row(2, 0, 61)", -1, x -> x.row(2, 0, 61));
        refused("row(6, 0, 6)", -1, x -> x.row(6, 0, 6));
        refused("put(6, 5, 1)", -1, x -> x.put(6, 5, 1));
        refused("shift(2, 0, 6, 0, 1)", -1, x -> x.shift(2, 0, 6, 0, 1));
        refused("shift(-1, 0, 2, 0, 1)", -1, x -> x.shift(-1, 0, 2, 0, 1));
        refused("taken(1, 8)", -1, x -> x.taken(1, 8));
        refused("count(7)", -1, x -> x.count(7));
    }

    private static void notAndState() {
        Due.says("NOT (-2): as told; FULL (-3); STATE (-5): as told; ... What is answered so changes nothing.");
        refused("paid(10011, 0, -1)", -2, x -> x.paid(10011, 0, -1));
        refused("buy(0), which no coins pay", -2, x -> x.buy(0));
        refused("buy(1), too dear", -2, x -> x.buy(1));
        refused("buy(2), none of it", -5, x -> x.buy(2));
        refused("swap(10011, 0)", -2, x -> x.swap(10011, 0));
        refused("swap(10013, 0)", -5, x -> x.swap(10013, 0));
        CoinsOfLast x = new CoinsOfLast();
        x.sort(101, 0);
        x.purse(0, 3);
        Due.is("back without an image", x.back(), -5);
        Due.is("undo of none", x.undo(), -5);
        Due.is("redo of none", x.redo(), -5);
        Due.is("coins stay", x.count(2), 3);
        Due.is("no changes", x.count(4), 0);
        x.mend(0, 1, 5);
        Due.is("redo of none", x.redo(), -5);
        Due.is("the change stays", x.of(0, 2), 5);
        Due.is("and may be undone", x.undo(), 0);
        Due.is("undo of none", x.undo(), -5);
        Due.is("it may be done again", x.redo(), 0);
        Due.is("done again", x.of(0, 2), 5);
    }

    private static void full() {
        Due.says("FULL (-3)");
        CoinsOfLast x = some();
        for (int s = 3; s < 8; s++) {
            Due.is("sort", x.sort(140, 0), s);
        }
        for (int t = 3; t < 10; t++) {
            Due.is("thing", x.thing(1001, 0), t);
        }
        long before = seen(x);
        Due.is("sort", x.sort(140, 0), -3);
        Due.is("thing", x.thing(1001, 0), -3);
        Due.is("nothing came", seen(x), before);
        CoinsOfLast y = some();
        for (int n = 3; n <= 120; n++) {
            Due.is("feed", y.feed('1'), n);
        }
        before = seen(y);
        Due.is("feed", y.feed('1'), -3);
        Due.is("nothing came", seen(y), before);
        CoinsOfLast z = some();
        for (int n = 2; n < 50; n++) {
            Due.is("body", z.body(0), n);
        }
        before = seen(z);
        Due.is("body", z.body(0), -3);
        Due.is("nothing came", seen(z), before);
    }

    private static void hostsRefusals() {
        Due.says("The host's REFUSALS: -11 nothing is there where something is wanted; -12 it is of another kind; "
            + "-13 a place that is not there; -14 a size below 0.");
        refused("put on nothing", -11, x -> x.put(0, 0, 1));
        refused("put on a deed", -12, x -> x.put(1, 0, 1));
        refused("put behind the row", -13, x -> x.put(2, 6, 1));
        refused("put ahead of the row", -13, x -> x.put(2, -1, 1));
        refused("put far behind the row", -13, x -> x.put(2, MAX, 1));
        refused("put far ahead of the row", -13, x -> x.put(2, MIN, 1));
        refused("element of nothing", Long.MIN_VALUE, x -> x.element(0, 0));
        refused("element of a deed", Long.MIN_VALUE, x -> x.element(1, 0));
        refused("row of -1", -14, x -> x.row(2, 0, -1));
        refused("row far below", -14, x -> x.row(1, 0, MIN));
        refused("shift from nothing", -11, x -> x.shift(0, 0, 2, 0, 1));
        refused("shift to nothing", -11, x -> x.shift(2, 5, 0, 0, 1));
        refused("shift from a deed", -12, x -> x.shift(1, 0, 2, 0, 1));
        refused("shift to a deed", -12, x -> x.shift(2, 5, 1, 0, 1));
        refused("shift from bytes to shorts", -12, x -> x.shift(2, 5, 3, 0, 1));
        refused("shift of too many", -13, x -> x.shift(2, 5, 2, 0, 2));
        refused("shift to behind the end", -13, x -> x.shift(2, 4, 2, 5, 2));
        refused("shift of below none", -13, x -> x.shift(2, 5, 2, 0, -1));
        refused("taken of nothing", -11, x -> x.taken(0, 0));
        refused("taken of a row", -12, x -> x.taken(2, 0));
        refused("taken for another kind", -12, x -> x.taken(1, 1));
        refused("sorts of a deed", -12, x -> x.sorts(1, 0, 1));
        refused("sorts of shorts", -12, x -> x.sorts(3, 0, 1));
        refused("sorts of nothing", 0, x -> x.sorts(0, 0, 1));
        refused("sorts that are not so", 0, x -> x.sorts(2, 0, 1));
    }

    private static void faultKeepsTheLaws() {
        Due.says("1; -100 less its FAULT; THE TAPE is empty then.");
        for (int which = 0; which < 2; which++) {
            CoinsOfLast x = some();
            int rate = x.rate(12, 77);
            int kept = x.kept(60);
            Due.is("law of 1+", x.law(which), -102);
            Due.is("tape", x.count(3), 0);
            Due.is("rate", x.rate(12, 77), rate);
            Due.is("years", x.kept(60), kept);
            Due.is("law of nothing", x.law(which), -100);
            Due.is("rate", x.rate(12, 77), rate);
            Due.is("years", x.kept(60), kept);
        }
    }

    private static void actKeepsAllButTheTrace() {
        Due.says("0, and no TRACE then: no such DEED, ACT.");
        CoinsOfLast x = some();
        CoinsOfLast twin = some();
        Due.is("no such deed", x.act(2, 0, 5), 0);
        Due.is("no such act", twin.act(0, 4, 5), 0);
        Due.is("no trace", x.count(6), 0);
        Due.is("no trace", twin.count(6), 0);
        Due.is("all the same", seen(x), seen(twin));
        Due.is("the act once more", x.act(0, 3, 5), -10);
        Due.is("all as before", seen(x), seen(some()));
    }

    private static void namedFirst() {
        Due.says("Answers, of several the one named first");
        CoinsOfLast x = some();
        for (int s = 3; s < 8; s++) {
            x.sort(140, 0);
        }
        for (int t = 3; t < 10; t++) {
            x.thing(1001, 0);
        }
        for (int n = 2; n < 50; n++) {
            x.body(0);
        }
        Due.is("sort: BAD, FULL", x.sort(141, 0), -1);
        Due.is("thing: BAD, FULL", x.thing(1201, 0), -1);
        Due.is("body: BAD, FULL", x.body(8), -1);
        Due.is("sorts: BAD, -12", x.sorts(1, 0, 9), -1);
        Due.is("paid: BAD, NOT", x.paid(10011, 2, -1), -1);
        Due.is("buy: STATE, NOT", buyOfNoneTooDear(), -5);
        Due.is("swap: BAD, STATE", x.swap(10010, -1), -1);
        Due.is("row: BAD, -14", x.row(2, 5, -1), -1);
        Due.is("row: BAD, -14", x.row(6, 0, -1), -1);
        Due.is("put: BAD, -13", x.put(6, -1, 1), -1);
        Due.is("put: -11, -13", x.put(0, -1, 1), -11);
        Due.is("put: -12, -13", x.put(1, -1, 1), -12);
        Due.is("shift: BAD, -11", x.shift(0, 0, 6, 0, 1), -1);
        Due.is("shift: BAD, -12", x.shift(1, 0, -1, 0, 1), -1);
        Due.is("shift: -11, -12", x.shift(0, 0, 1, 0, 1), -11);
        Due.is("shift: -11, -12", x.shift(1, 0, 0, 0, 1), -11);
        Due.is("shift: -11, -13", x.shift(2, 7, 0, 0, 1), -11);
        Due.is("shift: -12, -13", x.shift(2, 7, 3, 0, 1), -12);
        Due.is("taken: BAD, -11", x.taken(0, 8), -1);
        Due.is("taken: BAD, -12", x.taken(2, -1), -1);
        Due.is("standIn: BAD, NOT", x.standIn(0, 0, 10000, 0), -2000000000);
        Due.is("law: BAD, a FAULT", x.law(2), -1);
        Due.is("the tape stays", x.count(3), 2);
        for (int n = 3; n <= 120; n++) {
            x.feed('1');
        }
        Due.is("feed: BAD, FULL", x.feed(256), -1);
        Due.is("feed: FULL", x.feed(255), -3);
    }

    private static int buyOfNoneTooDear() {
        CoinsOfLast x = new CoinsOfLast();
        x.thing(200, 0);
        return x.buy(0);
    }

    private static void askingChangesNothing() {
        Due.says("Nothing is promised beyond the answers and state changes described above");
        refused("paid", 2, x -> x.paid(10020, 0, -1));
        refused("amounts", 11, x -> x.amounts(1, 0));
        refused("spend", 29, x -> x.spend(1, 0, 0));
        refused("like", 7, x -> x.like(0, 2));
        refused("standIn", 1, x -> x.standIn(0, 2, 0, 0));
        refused("change", 84, x -> x.change(100, 12, 0));
        refused("way", 213, x -> x.way(0, 12, 0, 1));
        refused("round", 0, x -> x.round(0, 1, 0, 0));
        refused("waits", 60, x -> x.waits(9999, 12, 60, 0));
        refused("swap", -2, x -> x.swap(20020, 5));
        refused("kept", 29 + 5 * 60, x -> x.kept(60));
        refused("heap", 1, x -> x.heap(10013, 2, 61));
    }

    private static void eachObjectItsOwn() {
        Due.says("All memory is the class's own.");
        CoinsOfLast x = some();
        CoinsOfLast twin = some();
        long before = seen(x);
        CoinsOfLast other = some();
        other.mend(0, 0, 40);
        other.undo();
        other.sort(340, 0);
        other.purse(0, 6);
        other.thing(1001, 9);
        other.buy(3);
        other.rule(1, 2);
        other.window(0, 99);
        Due.law(other, 0, "7");
        Due.law(other, 0, "7");
        Due.law(other, 1, "7");
        other.give(1);
        other.image();
        other.back();
        other.body(3);
        other.act(0, 1, 9);
        other.keep(1, -1);
        other.put(2, 5, 1);
        other.row(3, 4, 60);
        other.feed('3');
        Due.is("the other one is another one", seen(other) == before ? 1 : 0, 0);
        Due.is("what is seen of the first", seen(x), before);
        Due.is("what is told of the first", tells(x), tells(twin));
        CoinsOfLast later = new CoinsOfLast();
        for (int what = 0; what < 7; what++) {
            Due.is("a later one is new", later.count(what), 0);
        }
        Due.is("its shelf", later.taken(1, 0), -11);
        Due.is("its rate", later.rate(12, 0), 1000);
        Due.is("its image", later.back(), -5);
        Due.is("its rule", later.of(1, 20), 0);
    }
}
