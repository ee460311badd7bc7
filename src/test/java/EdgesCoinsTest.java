/** The boundary cases of promises 1 to 9, and of what section 1 of the terms says of coins and things. */
public final class EdgesCoinsTest {
    public static void main(String[] args) {
        callsOfAnObject();
        newObject();
        lands();
        landsOfCallsThatPay();
        landsOfCallsThatChange();
        sortsAsTheyCome();
        sortNumbers();
        worth();
        sizeAndWeight();
        sortIsFull();
        purse();
        purseTells();
        thingsAsTheyCome();
        thingNumbers();
        price();
        value();
        many();
        thingIsFull();
        rule();
        window();
        mend();
        mendOfSortsAndThings();
        of();
        ofLands();
        Due.close();
    }

    private static CoinsOfLast withSorts(int n) {
        CoinsOfLast x = new CoinsOfLast();
        for (int s = 0; s < n; s++) {
            x.sort(100 * (s % 4) + s + 1, 100 * s + 2 * s);
        }
        return x;
    }

    private static CoinsOfLast withThings(int n) {
        CoinsOfLast x = new CoinsOfLast();
        for (int t = 0; t < n; t++) {
            x.thing(1000 * (t % 4) + t + 1, 10 * t + 1);
        }
        return x;
    }

    private static void callsOfAnObject() {
        Due.says("An object is used for at most 512 calls after it has been made");
        CoinsOfLast x = new CoinsOfLast();
        Due.is("call 1", x.sort(101, 0), 0);
        for (int call = 2; call <= 511; call++) {
            Due.is("call " + call, x.mend(0, 1, call % 99 + 1), call == 2 ? 0 : (call - 1) % 99 + 1);
        }
        Due.is("call 512", x.of(0, 2), 511 % 99 + 1);
        CoinsOfLast y = new CoinsOfLast();
        for (int call = 1; call <= 510; call += 3) {
            Due.is("call " + call, y.feed('1' + call % 9), 1);
            Due.is("call " + (call + 1), y.law(0), 1);
            Due.is("call " + (call + 2), y.rate(1, 0), 1 + call % 9);
        }
        Due.is("call 511", y.feed('1'), 1);
        Due.is("call 512", y.law(1), 1);
        CoinsOfLast z = new CoinsOfLast();
        Due.is("call 1", z.body(7), 0);
        for (int call = 2; call <= 511; call++) {
            // Changes: -2 * (5 + 1) and three times 2; swaps: three times 1; 1 less.
            Due.is("call " + call, z.act(0, 3, 5), -12 + 6 - 3 - 1);
        }
        Due.is("call 512", z.count(6), 11);
    }

    private static void newObject() {
        Due.says("No coins, no things.");
        CoinsOfLast x = new CoinsOfLast();
        Due.is("count(0)", x.count(0), 0);
        Due.is("count(1)", x.count(1), 0);
        Due.is("count(2)", x.count(2), 0);
        for (int what = 0; what < 5; what++) {
            Due.is("of(0, " + what + ")", x.of(0, what), -1);
        }
        for (int what = 10; what < 14; what++) {
            Due.is("of(0, " + what + ")", x.of(0, what), -1);
        }
        for (int land = 0; land < 4; land++) {
            Due.is("of(" + land + ", 21)", x.of(land, 21), 0);
            Due.is("amounts(" + land + ", 0)", x.amounts(land, 0), 0);
            Due.is("spend(" + land + ", 0, 2)", x.spend(land, 0, 2), 0);
        }
        Due.is("the first sort", x.sort(101, 0), 0);
        Due.is("the first thing", x.thing(1001, 0), 0);
    }

    private static void lands() {
        Due.says("LANDS 0 .. 3.");
        Due.ends("sort", 0, 3, -1, land -> new CoinsOfLast().sort(100 * land + 1, 0));
        Due.ends("sort", 0, 3, -1, land -> new CoinsOfLast().sort(100 * land + 40, 0));
        Due.ends("thing", 0, 3, -1, land -> new CoinsOfLast().thing(1000 * land + 1, 0));
        Due.ends("thing", 0, 3, -1, land -> new CoinsOfLast().thing(1000 * land + 200, 0));
        Due.range("rule", 0, 3, -1, land -> new CoinsOfLast().rule(land, 2));
        Due.range("of rule", 0, 3, -1, land -> new CoinsOfLast().of(land, 20));
        Due.range("of worth", 0, 3, -1, land -> new CoinsOfLast().of(land, 21));
        Due.ends("rate from", 0, 3, -1, land -> new CoinsOfLast().rate(10 * land, 0));
        Due.range("rate to", 0, 3, -1, land -> new CoinsOfLast().rate(land, 0));
        Due.ends("rate to", 0, 3, -1, land -> new CoinsOfLast().rate(30 + land, 0));
        Due.ends("rate to", 0, 3, -1, land -> new CoinsOfLast().rate(10 + land, 0));
        Due.is("rate(33)", new CoinsOfLast().rate(33, 0), 1000);
        Due.is("rate(34)", new CoinsOfLast().rate(34, 0), -1);
        Due.is("rate(39)", new CoinsOfLast().rate(39, 0), -1);
        Due.is("rate(-1)", new CoinsOfLast().rate(-1, 0), -1);
        Due.is("rate(-9)", new CoinsOfLast().rate(-9, 0), -1);
        Due.is("rate far above", new CoinsOfLast().rate(Integer.MAX_VALUE, 0), -1);
        Due.is("rate far below", new CoinsOfLast().rate(Integer.MIN_VALUE, 0), -1);
    }

    private static void landsOfCallsThatPay() {
        Due.says("LANDS 0 .. 3.");
        Due.ends("paid", 0, 3, -1, land -> new CoinsOfLast().paid(10000 * land, 0, -1));
        Due.ends("paid", 0, 3, -1, land -> new CoinsOfLast().paid(10000 * land + 9999, 0, -1));
        Due.range("amounts", 0, 3, -1, land -> new CoinsOfLast().amounts(land, 0));
        Due.range("amounts", 0, 3, -1, land -> new CoinsOfLast().amounts(land, 1));
        for (int which = 0; which < 2; which++) {
            int w = which;
            Due.range("spend", 0, 3, -1, land -> new CoinsOfLast().spend(land, w, 0));
        }
        Due.ends("swap", 0, 3, -1, land -> new CoinsOfLast().swap(10000 * land + 1, 0));
        Due.ends("swap", 0, 3, -1, land -> new CoinsOfLast().swap(10000 * land + 9999, 0));
        Due.ends("heap", 0, 3, -1, land -> new CoinsOfLast().heap(10000 * land, 0, 0));
        Due.range("give", 0, 3, -1, land -> new CoinsOfLast().give(land));
    }

    private static void landsOfCallsThatChange() {
        Due.says("LANDS 0 .. 3.");
        Due.ends("change from", 0, 3, -1, land -> new CoinsOfLast().change(5, 10 * land + another(land), 0));
        Due.ends("change to", 0, 3, -1, land -> new CoinsOfLast().change(5, 10 * another(land) + land, 0));
        for (int what = 0; what < 2; what++) {
            int w = what;
            Due.ends("way from", 0, 3, -1, land -> new CoinsOfLast().way(5, 10 * land + another(land), 0, w));
            Due.ends("way to", 0, 3, -1, land -> new CoinsOfLast().way(5, 10 * another(land) + land, 0, w));
            Due.range("round", 0, 3, -1, land -> new CoinsOfLast().round(5, land, 0, w));
            Due.ends("waits from", 0, 3, -1, land -> new CoinsOfLast().waits(5, 10 * land + another(land), 0, w));
            Due.ends("waits to", 0, 3, -1, land -> new CoinsOfLast().waits(5, 10 * another(land) + land, 0, w));
        }
    }

    private static int another(int land) {
        return (land + 1) % 4;
    }

    private static void sortsAsTheyCome() {
        Due.says("SORTS of coins 0 .. 7, as they come");
        CoinsOfLast x = new CoinsOfLast();
        for (int s = 0; s < 8; s++) {
            Due.is("sort", x.sort(100 * (s % 4) + 40 - s, 100 * (99 - s) + s), s);
            Due.is("sorts", x.count(0), s + 1);
        }
        Due.is("a ninth sort", x.sort(101, 0), -3);
        for (int s = 0; s < 8; s++) {
            Due.is("land of " + s, x.of(s, 0), s % 4);
            Due.is("worth of " + s, x.of(s, 1), 40 - s);
            Due.is("size of " + s, x.of(s, 2), 99 - s);
            Due.is("weight of " + s, x.of(s, 3), s);
        }
    }

    private static void sortNumbers() {
        Due.says("BAD (-1): no such number, or it is not as said");
        Due.is("the first of none", new CoinsOfLast().purse(0, 0), -1);
        Due.is("a coin of none", new CoinsOfLast().paid(0, 0, 0), -1);
        for (int n = 1; n <= 8; n++) {
            int known = n;
            String of = " with " + n + " sorts";
            Due.range("purse" + of, 0, n - 1, -1, s -> withSorts(known).purse(s, 1));
            for (int what = 0; what < 3; what++) {
                int w = what;
                Due.range("mend" + of, 0, n - 1, -1, s -> withSorts(known).mend(s, w, 30));
            }
            for (int what = 0; what < 5; what++) {
                int w = what;
                Due.range("of" + of, 0, n - 1, -1, s -> withSorts(known).of(s, w));
            }
            Due.range("paid" + of, -1, n - 1, -1, s -> withSorts(known).paid(0, 0, s));
            Due.range("like" + of, 0, n - 1, -1, s -> withSorts(known).like(s, 0));
            Due.range("standIn" + of, 0, n - 1, CoinsOfLast.VOID, s -> withSorts(known).standIn(s, 0, 0, 0));
        }
    }

    private static void worth() {
        Due.says("WORTH (1 .. 40, in its least money)");
        for (int land = 0; land < 4; land++) {
            int l = land;
            Due.ends("sort", 1, 40, -1, w -> new CoinsOfLast().sort(100 * l + w, 0));
            Due.is("worth 99", new CoinsOfLast().sort(100 * land + 99, 0), -1);
        }
        Due.range("lw", 1, 40, -1, w -> new CoinsOfLast().sort(w, 0));
        Due.is("lw -60", new CoinsOfLast().sort(-60, 0), -1);
        Due.is("lw -99", new CoinsOfLast().sort(-99, 0), -1);
        Due.range("mend", 1, 40, -1, w -> withSorts(1).mend(0, 0, w));
        for (int w : new int[] {1, 2, 39, 40}) {
            CoinsOfLast x = new CoinsOfLast();
            x.sort(300 + w, 0);
            Due.is("worth", x.of(0, 1), w);
            x.mend(0, 0, 41 - w);
            Due.is("mended worth", x.of(0, 1), 41 - w);
            Due.is("its land", x.of(0, 0), 3);
        }
    }

    private static void sizeAndWeight() {
        Due.says("SIZE, WEIGHT (0 .. 99 each)");
        Due.range("sw", 0, 9999, -1, sw -> new CoinsOfLast().sort(1, sw));
        Due.ends("size", 0, 99, -1, size -> new CoinsOfLast().sort(1, 100 * size));
        for (int sw : new int[] {0, 1, 98, 99, 100, 101, 199, 200, 9800, 9899, 9900, 9998, 9999}) {
            CoinsOfLast x = new CoinsOfLast();
            Due.is("sort", x.sort(1, sw), 0);
            Due.is("size of " + sw, x.of(0, 2), sw / 100);
            Due.is("weight of " + sw, x.of(0, 3), sw % 100);
        }
        Due.range("mend size", 0, 99, -1, v -> withSorts(2).mend(1, 1, v));
        Due.range("mend weight", 0, 99, -1, v -> withSorts(2).mend(1, 2, v));
    }

    private static void sortIsFull() {
        Due.says("A SORT: its number. lw: 100 LAND and WORTH; sw: 100 SIZE and WEIGHT. BAD, FULL: 8.");
        Due.is("the seventh", withSorts(6).sort(1, 0), 6);
        Due.is("the eighth", withSorts(7).sort(1, 0), 7);
        Due.is("the ninth", withSorts(8).sort(1, 0), -3);
        Due.is("a bad ninth worth", withSorts(8).sort(0, 0), -1);
        Due.is("a bad ninth size", withSorts(8).sort(1, 10000), -1);
        CoinsOfLast x = withSorts(8);
        x.sort(340, 9999);
        Due.is("none came", x.count(0), 8);
        Due.is("the last one stays", x.of(7, 1), 8);
    }

    private static void purse() {
        Due.says("THE PURSE: 0 .. 6 of each SORT (0 at first).");
        Due.range("purse", 0, 6, -1, v -> withSorts(3).purse(2, v));
        CoinsOfLast x = withSorts(8);
        for (int s = 0; s < 8; s++) {
            Due.is("at first", x.of(s, 4), 0);
        }
        Due.is("none in it", x.count(2), 0);
        for (int s = 0; s < 8; s++) {
            Due.is("purse", x.purse(s, 6), 0);
        }
        Due.is("all it can hold", x.count(2), 48);
    }

    private static void purseTells() {
        Due.says("THE PURSE has v (0 .. 6) of a SORT: how many it had. BAD.");
        CoinsOfLast x = withSorts(2);
        int had = 0;
        for (int v : new int[] {0, 1, 0, 6, 5, 6, 6, 0, 3}) {
            Due.is("purse", x.purse(1, v), had);
            Due.is("it has", x.of(1, 4), v);
            Due.is("the other one", x.of(0, 4), 0);
            had = v;
        }
        Due.is("one too many", x.purse(1, 7), -1);
        Due.is("one too few", x.purse(1, -1), -1);
        Due.is("it has as before", x.of(1, 4), 3);
    }

    private static void thingsAsTheyCome() {
        Due.says("THINGS 0 .. 9, as they come");
        CoinsOfLast x = new CoinsOfLast();
        for (int t = 0; t < 10; t++) {
            Due.is("thing", x.thing(1000 * (t % 4) + 200 - t, 10 * (99 - t) + 9 - t), t);
            Due.is("things", x.count(1), t + 1);
        }
        Due.is("an eleventh thing", x.thing(1, 0), -3);
        for (int t = 0; t < 10; t++) {
            Due.is("land of " + t, x.of(t, 10), t % 4);
            Due.is("price of " + t, x.of(t, 11), 200 - t);
            Due.is("value of " + t, x.of(t, 12), 99 - t);
            Due.is("many of " + t, x.of(t, 13), 9 - t);
        }
    }

    private static void thingNumbers() {
        Due.says("BAD (-1): no such number, or it is not as said");
        Due.is("the first of none", new CoinsOfLast().buy(0), -1);
        for (int n = 1; n <= 10; n++) {
            int known = n;
            String of = " with " + n + " things";
            Due.range("buy" + of, 0, n - 1, -1, t -> withThings(known).buy(t));
            for (int what = 3; what < 5; what++) {
                int w = what;
                Due.range("mend" + of, 0, n - 1, -1, t -> withThings(known).mend(t, w, 30));
            }
            for (int what = 10; what < 14; what++) {
                int w = what;
                Due.range("of" + of, 0, n - 1, -1, t -> withThings(known).of(t, w));
            }
        }
    }

    private static void price() {
        Due.says("PRICE (1 .. 200)");
        for (int land = 0; land < 4; land++) {
            int l = land;
            Due.ends("thing", 1, 200, -1, p -> new CoinsOfLast().thing(1000 * l + p, 0));
            Due.is("price 999", new CoinsOfLast().thing(1000 * land + 999, 0), -1);
        }
        Due.range("lp", 1, 200, -1, p -> new CoinsOfLast().thing(p, 0));
        Due.is("lp -800", new CoinsOfLast().thing(-800, 0), -1);
        Due.is("lp -999", new CoinsOfLast().thing(-999, 0), -1);
        Due.range("mend", 1, 200, -1, p -> withThings(1).mend(0, 3, p));
        for (int p : new int[] {1, 2, 199, 200}) {
            CoinsOfLast x = new CoinsOfLast();
            x.thing(3000 + p, 0);
            Due.is("price", x.of(0, 11), p);
            x.mend(0, 3, 201 - p);
            Due.is("mended price", x.of(0, 11), 201 - p);
        }
    }

    private static void value() {
        Due.says("VALUE (0 .. 99)");
        Due.ends("vm", 0, 99, -1, v -> new CoinsOfLast().thing(1, 10 * v));
        Due.ends("vm", 0, 99, -1, v -> new CoinsOfLast().thing(1, 10 * v + 9));
        Due.range("mend", 0, 99, -1, v -> withThings(2).mend(1, 4, v));
        for (int v : new int[] {0, 1, 98, 99}) {
            CoinsOfLast x = new CoinsOfLast();
            x.thing(1, 10 * v + 5);
            Due.is("value", x.of(0, 12), v);
            x.mend(0, 4, 99 - v);
            Due.is("mended value", x.of(0, 12), 99 - v);
        }
    }

    private static void many() {
        Due.says("MANY (0 .. 9)");
        Due.range("vm", 0, 999, -1, vm -> new CoinsOfLast().thing(1, vm));
        for (int vm : new int[] {0, 1, 8, 9, 10, 11, 19, 20, 989, 990, 991, 998, 999}) {
            CoinsOfLast x = new CoinsOfLast();
            Due.is("thing", x.thing(1, vm), 0);
            Due.is("value of " + vm, x.of(0, 12), vm / 10);
            Due.is("many of " + vm, x.of(0, 13), vm % 10);
        }
    }

    private static void thingIsFull() {
        Due.says("A THING: its number. lp: 1000 LAND and PRICE; vm: 10 VALUE and MANY. BAD, FULL: 10.");
        Due.is("the ninth", withThings(8).thing(1, 0), 8);
        Due.is("the tenth", withThings(9).thing(1, 0), 9);
        Due.is("the eleventh", withThings(10).thing(1, 0), -3);
        Due.is("a bad eleventh price", withThings(10).thing(0, 0), -1);
        Due.is("a bad eleventh value", withThings(10).thing(1, 1000), -1);
        CoinsOfLast x = withThings(10);
        x.thing(3200, 999);
        Due.is("none came", x.count(1), 10);
        Due.is("the last one stays", x.of(9, 11), 10);
    }

    private static void rule() {
        Due.says("A LAND's RULE (0 at first)");
        Due.range("rule", 0, 2, -1, v -> new CoinsOfLast().rule(3, v));
        CoinsOfLast x = new CoinsOfLast();
        for (int land = 0; land < 4; land++) {
            Due.is("at first", x.of(land, 20), 0);
        }
        Due.says("A LAND's RULE becomes v: what it was. BAD.");
        int was = 0;
        for (int v : new int[] {0, 1, 2, 2, 1, 0, 2}) {
            Due.is("rule", x.rule(3, v), was);
            Due.is("its rule", x.of(3, 20), v);
            Due.is("the other land's", x.of(2, 20), 0);
            was = v;
        }
        Due.is("rule 3", x.rule(3, 3), -1);
        Due.is("rule -1", x.rule(3, -1), -1);
        Due.is("as before", x.of(3, 20), 2);
    }

    private static void window() {
        Due.says("SHARE (0 .. 99 hundredths; 0 at first), FEE (0 .. 99; 0 at first).");
        for (int what = 0; what < 2; what++) {
            int w = what;
            Due.range("window", 0, 99, -1, v -> new CoinsOfLast().window(w, v));
            Due.is("at first", new CoinsOfLast().window(what, 99), 0);
        }
        Due.says("SHARE (what 0), FEE (1) becomes v: what it was. BAD.");
        Due.range("what", 0, 1, -1, w -> new CoinsOfLast().window(w, 5));
        CoinsOfLast x = new CoinsOfLast();
        Due.is("share", x.window(0, 99), 0);
        Due.is("fee", x.window(1, 1), 0);
        Due.is("share 100", x.window(0, 100), -1);
        Due.is("fee 100", x.window(1, 100), -1);
        Due.is("what 2", x.window(2, 7), -1);
        Due.is("share", x.window(0, 0), 99);
        Due.is("fee", x.window(1, 99), 1);
        Due.is("share", x.window(0, 1), 0);
        Due.is("fee", x.window(1, 0), 99);
    }

    private static void mend() {
        Due.says("WORTH (what 0), SIZE (1), WEIGHT (2) of a SORT, PRICE (3), VALUE (4) of a THING becomes v: what it was. BAD.");
        CoinsOfLast y = new CoinsOfLast();
        y.sort(1, 0);
        y.thing(1, 0);
        Due.range("what", 0, 4, -1, w -> y.mend(0, w, 30));
        int[] least = {1, 0, 0, 1, 0};
        int[] most = {40, 99, 99, 200, 99};
        int[] tells = {1, 2, 3, 11, 12};
        for (int what = 0; what < 5; what++) {
            CoinsOfLast x = new CoinsOfLast();
            x.sort(20, 2020);
            x.thing(20, 200);
            int was = 20;
            for (int v : new int[] {least[what], least[what] + 1, most[what] - 1, most[what]}) {
                Due.is("mend", x.mend(0, what, v), was);
                Due.is("it is", x.of(0, tells[what]), v);
                was = v;
            }
            Due.is("below", x.mend(0, what, least[what] - 1), -1);
            Due.is("above", x.mend(0, what, most[what] + 1), -1);
            Due.is("it stays", x.of(0, tells[what]), most[what]);
            Due.is("changes", x.count(4), 4);
            for (int other = 0; other < 5; other++) {
                Due.is("the others stay", x.of(0, tells[other]), other == what ? most[what] : 20);
            }
        }
    }

    private static void mendOfSortsAndThings() {
        Due.says("WORTH (what 0), SIZE (1), WEIGHT (2) of a SORT, PRICE (3), VALUE (4) of a THING becomes v: what it was. BAD.");
        for (int what = 0; what < 5; what++) {
            Due.is("a sort's " + what, withSorts(1).mend(0, what, 5) == -1 ? 1 : 0, what < 3 ? 0 : 1);
            Due.is("a thing's " + what, withThings(1).mend(0, what, 5) == -1 ? 1 : 0, what < 3 ? 1 : 0);
        }
        CoinsOfLast x = withSorts(8);
        x.thing(1, 0);
        Due.is("the last sort", x.mend(7, 2, 99), 14);
        Due.is("the second thing", x.mend(1, 3, 99), -1);
        CoinsOfLast y = withThings(10);
        y.sort(1, 0);
        Due.is("the last thing", y.mend(9, 3, 99), 10);
        Due.is("the second sort", y.mend(1, 2, 99), -1);
    }

    private static void of() {
        Due.says("Of a SORT: 0 LAND, 1 WORTH, 2 SIZE, 3 WEIGHT, 4 how many in THE PURSE; of a THING: 10 LAND, 11 PRICE, 12 VALUE, 13 MANY");
        CoinsOfLast x = new CoinsOfLast();
        x.sort(340, 9998);
        x.purse(0, 6);
        x.thing(2199, 969);
        Due.range("of a sort", 0, 4, -1, what -> x.of(0, what));
        Due.ends("of a thing", 10, 13, -1, what -> x.of(0, what));
        Due.ends("of a land", 20, 21, -1, what -> x.of(0, what));
        int[] sort = {3, 40, 99, 98, 6};
        for (int what = 0; what < 5; what++) {
            Due.is("of the sort " + what, x.of(0, what), sort[what]);
        }
        int[] thing = {2, 199, 96, 9};
        for (int what = 0; what < 4; what++) {
            Due.is("of the thing " + what, x.of(0, 10 + what), thing[what]);
        }
    }

    private static void ofLands() {
        Due.says("of a LAND: 20 RULE, 21 WORTH of its coins in THE PURSE");
        CoinsOfLast x = withSorts(8);
        for (int land = 0; land < 4; land++) {
            Due.is("no coins", x.of(land, 21), 0);
        }
        for (int s = 0; s < 8; s++) {
            x.purse(s, 6);
        }
        for (int land = 0; land < 4; land++) {
            Due.is("all coins", x.of(land, 21), 6 * (land + 1 + land + 5));
        }
        x.purse(3, 0);
        Due.is("without the first", x.of(3, 21), 6 * 8);
        x.purse(7, 1);
        Due.is("one of the other", x.of(3, 21), 8);
        CoinsOfLast y = new CoinsOfLast();
        for (int s = 0; s < 8; s++) {
            y.sort(340, 0);
            y.purse(s, 6);
        }
        Due.is("the greatest worth", y.of(3, 21), 1920);
        Due.is("none of the next land", y.of(2, 21), 0);
    }
}
