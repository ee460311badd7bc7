import java.util.Arrays;

/** Coins of the last land: coins, things, texts, payments, changes, deeds and shelves in one object. */
public final class CoinsOfLast {
    public static final int BAD = -1, NOT = -2, FULL = -3, STATE = -5, VOID = -2000000000;

    private static final int NOTHING = -11, OTHER_KIND = -12, NO_PLACE = -13, BELOW_ZERO = -14;

    private static final int LANDS = 4, SORTS = 8, THINGS = 10, HELD_MOST = 6;
    private static final int WORTH_MOST = 40, PRICE_MOST = 200, MANY_MOST = 9, TWO_DIGITS_MOST = 99;
    private static final int TOTAL_MOST = SORTS * HELD_MOST * WORTH_MOST;
    private static final int AMOUNT_PART = 10000, AMOUNT_MOST = 9999, DAY_MOST = 9999, YEAR_MOST = 60;
    private static final int THOUSAND = 1000, RATE_MOST = 9999, KEPT_MOST = 9999;
    private static final int WAIT_MOST = 60, GIFT_MOST = 3;
    private static final int HEAP_COINS = 20, HEAP_WORTH = 1200, HEAP_WEIGHT = 1980;
    private static final int TAPE_MOST = 120, CODES_MOST = 128, NAMES_MOST = 7, OPEN_MOST = 6;
    private static final int CHANGES_MOST = 40, SHELVES = 6, ROW_MOST = 60;
    private static final int BODIES_MOST = 50, KINDS = 8, ACTS = 4, TRACE_MOST = 24, DEPTH_MOST = 40;
    private static final int LOST = 0, SPENT = 1, GIVEN = 2, LED_MOST = 3;

    // What mend() may tell: WORTH, SIZE, WEIGHT, PRICE, VALUE.
    private static final int[] MEND_LEAST = {1, 0, 0, 1, 0};
    private static final int[] MEND_MOST = {WORTH_MOST, TWO_DIGITS_MOST, TWO_DIGITS_MOST, PRICE_MOST, TWO_DIGITS_MOST};

    private final Coins coins = new Coins();
    private final Things things = new Things();
    private final Payer payer = new Payer();
    private final Reader reader = new Reader();
    private final Window office = new Window();
    private final Text years = new Text();
    private final Heap heaps = new Heap();
    private final Changes changes = new Changes();
    private final Image picture = new Image();
    private final Deeds deeds = new Deeds();
    private final Shelf[] shelves = new Shelf[SHELVES];
    private final int[] rules = new int[LANDS];
    private final int[] ledger = new int[LED_MOST];

    public CoinsOfLast() {
        for (int s = 0; s < SHELVES; s++) {
            shelves[s] = new Shelf();
        }
    }

    // ---- coins, things, texts

    public int sort(int lw, int sw) {
        if (lw < 0 || sw < 0 || !Coins.fits(lw / 100, lw % 100, sw / 100, sw % 100)) {
            return BAD;
        }
        return coins.add(lw / 100, lw % 100, sw / 100, sw % 100) ? coins.known - 1 : FULL;
    }

    public int sorts(int shelf, int i, int n) {
        if (!isShelf(shelf) || !within(n, 1, SORTS)) {
            return BAD;
        }
        Shelf from = shelves[shelf];
        if (from.holds == Shelf.EMPTY) {
            return 0;
        }
        if (from.holds != Shelf.ROW || from.sort != Shelf.BYTES) {
            return OTHER_KIND;
        }
        int came = 0;
        while (came < n && addFromRow(from, i, came)) {
            came++;
        }
        return came;
    }

    public int purse(int sort, int v) {
        if (!coins.knows(sort) || !within(v, 0, HELD_MOST)) {
            return BAD;
        }
        int was = coins.held[sort];
        coins.held[sort] = v;
        return was;
    }

    public int thing(int lp, int vm) {
        if (lp < 0 || vm < 0 || !Things.fits(lp / 1000, lp % 1000, vm / 10)) {
            return BAD;
        }
        return things.add(lp / 1000, lp % 1000, vm / 10, vm % 10) ? things.known - 1 : FULL;
    }

    public int rule(int land, int v) {
        if (!isLand(land) || !within(v, 0, 2)) {
            return BAD;
        }
        int was = rules[land];
        rules[land] = v;
        return was;
    }

    public int window(int what, int v) {
        if (!within(what, 0, 1) || !within(v, 0, TWO_DIGITS_MOST)) {
            return BAD;
        }
        return what == 0 ? office.tellShare(v) : office.tellFee(v);
    }

    public int mend(int number, int what, int v) {
        if (!within(what, 0, MEND_MOST.length - 1) || !within(v, MEND_LEAST[what], MEND_MOST[what])) {
            return BAD;
        }
        if (what < 3 ? !coins.knows(number) : !things.knows(number)) {
            return BAD;
        }
        int was = mendable(number, what);
        if (was != v) {
            tell(number, what, v);
            changes.add(number, what, was, v);
        }
        return was;
    }

    public int of(int number, int what) {
        if (within(what, 0, 4)) {
            return coins.knows(number) ? ofSort(number, what) : BAD;
        }
        if (within(what, 10, 13)) {
            return things.knows(number) ? ofThing(number, what) : BAD;
        }
        if (!isLand(number) || !within(what, 20, 21)) {
            return BAD;
        }
        return what == 20 ? rules[number] : coins.worthOf(number);
    }

    public int feed(int letter) {
        return within(letter, 0, 255) ? reader.add(letter) : BAD;
    }

    public int law(int which) {
        if (!within(which, 0, 1)) {
            return BAD;
        }
        int fault = reader.parse();
        if (fault >= 0) {
            return -100 - fault;
        }
        Text text = which == 0 ? office.rates : years;
        text.become(reader.code, reader.codes);
        return 1;
    }

    public int rate(int ab, int day) {
        return isPair(ab) && isDay(day) ? office.rateOf(ab / 10, ab % 10, day) : BAD;
    }

    // ---- paying

    public int paid(int la, int how, int sort) {
        if (!isAmount(la) || !within(how, 0, 1) || sort != -1 && !coins.knows(sort)) {
            return BAD;
        }
        int number = payer.pay(coins, la / AMOUNT_PART, la % AMOUNT_PART, how == 1);
        if (number < 0) {
            return NOT;
        }
        return sort == -1 ? number : payer.used[sort];
    }

    public int amounts(int land, int what) {
        if (!isLand(land) || !within(what, 0, 1)) {
            return BAD;
        }
        payer.spread(coins, coins.held, land);
        return what == 0 ? payer.sumsAboveZero() : payer.leastGap();
    }

    public int spend(int land, int which, int what) {
        if (!isLand(land) || !within(which, 0, 1) || !within(what, 0, 2)) {
            return BAD;
        }
        int total = coins.worthOf(land);
        payer.spread(coins, coins.held, land);
        payer.valueChoices(things, land, total);
        int prices = which == 0 ? payer.greatestChoice(total) : payer.dearestChoice(total);
        if (what == 0) {
            return total - prices;
        }
        return what == 1 ? payer.valueAt(prices) : prices;
    }

    public int buy(int thing) {
        if (!things.knows(thing)) {
            return BAD;
        }
        if (things.many[thing] == 0) {
            return STATE;
        }
        int land = things.land[thing];
        int price = things.price[thing];
        int rule = rules[land];
        payer.spread(coins, coins.held, land);
        int amount = rule == 0 ? price : payer.leastFrom(price);
        if (amount < 0 || payer.pay(coins, land, amount, true) < 0) {
            return NOT;
        }
        coins.takeOut(payer.used);
        things.many[thing]--;
        int more = amount - price;
        int came = rule == 2 ? coins.bringBack(land, more) : 0;
        ledger[LOST] += more - came;
        ledger[SPENT] += amount - came;
        return amount - came;
    }

    public int like(int sort, int g) {
        return coins.knows(sort) && within(g, 0, TWO_DIGITS_MOST) ? coins.alike(sort, g) : BAD;
    }

    public int standIn(int sort, int g, int day, int what) {
        if (!coins.knows(sort) || !within(g, 0, TWO_DIGITS_MOST) || !isDay(day) || !within(what, 0, 1)) {
            return VOID;
        }
        int bits = coins.alike(sort, g);
        int found = -1;
        int least = 0;
        for (int s = 0; s < coins.known; s++) {
            if (s == sort || (bits >> s & 1) == 0) {
                continue;
            }
            int worth = office.exchanged(coins.worth[s], coins.land[s], coins.land[sort], day);
            if (found < 0 || worth < least) {
                found = s;
                least = worth;
            }
        }
        return what == 0 || found < 0 ? found : coins.worth[sort] - least;
    }

    // ---- changing, swapping, keeping

    public int change(int x, int ab, int day) {
        if (!within(x, 0, AMOUNT_MOST) || !isChange(ab) || !isDay(day)) {
            return BAD;
        }
        return office.changed(x, ab / 10, ab % 10, day);
    }

    public int way(int x, int ab, int day, int what) {
        if (!within(x, 0, AMOUNT_MOST) || !isChange(ab) || !isDay(day) || !within(what, 0, 1)) {
            return BAD;
        }
        office.search(x, ab / 10, ab % 10, day);
        return what == 0 ? office.most : office.digits;
    }

    public int round(int x, int a, int day, int what) {
        if (!within(x, 0, AMOUNT_MOST) || !isLand(a) || !isDay(day) || !within(what, 0, 1)) {
            return BAD;
        }
        office.search(x, a, a, day);
        return what == 0 ? office.most : office.digits;
    }

    public int waits(int x, int ab, int dn, int what) {
        if (!within(x, 0, AMOUNT_MOST) || !isChange(ab) || dn < 0 || !within(what, 0, 1)) {
            return BAD;
        }
        if (!isDay(dn / 100) || dn % 100 > WAIT_MOST) {
            return BAD;
        }
        int best = dn / 100;
        int most = -1;
        for (int n = 0; n <= dn % 100; n++) {
            int becomes = office.changed(x, ab / 10, ab % 10, dn / 100 + n);
            if (becomes > most) {
                most = becomes;
                best = dn / 100 + n;
            }
        }
        return what == 0 ? best : most;
    }

    public int swap(int la, int day) {
        if (!isAmount(la) || !isDay(day)) {
            return BAD;
        }
        payer.spread(coins, coins.held, la / AMOUNT_PART);
        if (payer.can(la % AMOUNT_PART)) {
            return STATE;
        }
        for (int together = 2; together <= 2 * GIFT_MOST; together++) {
            int digits = leastSwap(la, day, together);
            if (digits >= 0) {
                return digits;
            }
        }
        return NOT;
    }

    public int kept(int what) {
        if (within(what, 0, YEAR_MOST)) {
            return purseInYear(what);
        }
        if (!within(what, 100, 101)) {
            return BAD;
        }
        int best = 0;
        int most = purseInYear(0);
        for (int y = 1; y <= YEAR_MOST; y++) {
            int worth = purseInYear(y);
            if (worth > most) {
                most = worth;
                best = y;
            }
        }
        return what == 100 ? best : most;
    }

    public int heap(int lw, int n, int g) {
        if (!isAmount(lw) || lw % AMOUNT_PART > HEAP_WORTH) {
            return BAD;
        }
        if (!within(n, 0, HEAP_COINS) || !within(g, 0, HEAP_WEIGHT)) {
            return BAD;
        }
        return heaps.ways(coins, lw / AMOUNT_PART, n, lw % AMOUNT_PART, g);
    }

    public int give(int land) {
        if (!isLand(land)) {
            return BAD;
        }
        int worth = coins.worthOf(land);
        ledger[GIVEN] += coins.emptyOut(land);
        return worth;
    }

    public int led(int what) {
        return within(what, 0, LED_MOST - 1) ? ledger[what] : BAD;
    }

    public int image() {
        picture.take(coins, things, ledger);
        return coins.known;
    }

    public int back() {
        if (!picture.there) {
            return STATE;
        }
        picture.restore(coins, things, ledger);
        return coins.known;
    }

    public int undo() {
        int c = changes.stepBack();
        if (c < 0) {
            return STATE;
        }
        tell(changes.number[c], changes.what[c], changes.was[c]);
        return changes.done;
    }

    public int redo() {
        int c = changes.stepOn();
        if (c < 0) {
            return STATE;
        }
        tell(changes.number[c], changes.what[c], changes.became[c]);
        return changes.stored - changes.done;
    }

    // ---- acts, shelves

    public int body(int kind) {
        return within(kind, 0, KINDS - 1) ? deeds.add(kind) : BAD;
    }

    public int act(int body, int act, int x) {
        return deeds.begin(body, act, x);
    }

    public int trace(int i) {
        return i >= 0 && i < deeds.ran && i < TRACE_MOST ? deeds.bodies[i] : BAD;
    }

    public int keep(int shelf, int body) {
        if (!isShelf(shelf) || body != -1 && !deeds.knows(body)) {
            return BAD;
        }
        shelves[shelf].holdDeed(body);
        return 1;
    }

    public int row(int shelf, int sort, int n) {
        if (!isShelf(shelf) || !within(sort, 0, Shelf.BOOLEANS) || n > ROW_MOST) {
            return BAD;
        }
        if (n < 0) {
            return BELOW_ZERO;
        }
        shelves[shelf].holdRow(sort, n);
        return 1;
    }

    public int put(int shelf, int i, long v) {
        int refusal = refusalAt(shelf, i);
        if (refusal != 0) {
            return refusal;
        }
        shelves[shelf].store(i, v);
        return 1;
    }

    public long element(int shelf, int i) {
        return refusalAt(shelf, i) == 0 ? shelves[shelf].cells[i] : Long.MIN_VALUE;
    }

    public int shift(int shelf, int i, int other, int j, int n) {
        if (!isShelf(shelf) || !isShelf(other)) {
            return BAD;
        }
        Shelf from = shelves[shelf];
        Shelf to = shelves[other];
        if (from.holds == Shelf.EMPTY || to.holds == Shelf.EMPTY) {
            return NOTHING;
        }
        if (from.holds != Shelf.ROW || to.holds != Shelf.ROW || from.sort != to.sort) {
            return OTHER_KIND;
        }
        if (!from.spans(i, n) || !to.spans(j, n)) {
            return NO_PLACE;
        }
        System.arraycopy(from.cells, i, to.cells, j, n);
        return n;
    }

    public int taken(int shelf, int k) {
        if (!isShelf(shelf) || !within(k, 0, KINDS - 1)) {
            return BAD;
        }
        Shelf from = shelves[shelf];
        if (from.holds == Shelf.EMPTY) {
            return NOTHING;
        }
        if (from.holds != Shelf.DEED) {
            return OTHER_KIND;
        }
        int kind = deeds.kindOf(from.deed);
        return Deeds.isUnder(kind, k) ? kind : OTHER_KIND;
    }

    public int count(int what) {
        switch (what) {
            case 0: return coins.known;
            case 1: return things.known;
            case 2: return coins.heldInAll();
            case 3: return reader.length;
            case 4: return changes.done;
            case 5: return deeds.known;
            case 6: return deeds.ran;
            default: return BAD;
        }
    }

    // ---- what the calls share

    private static boolean within(int v, int least, int most) {
        return v >= least && v <= most;
    }

    private static int bounded(int v, int least, int most) {
        return Math.max(least, Math.min(most, v));
    }

    private static boolean isLand(int land) {
        return within(land, 0, LANDS - 1);
    }

    private static boolean isDay(int day) {
        return within(day, 0, DAY_MOST);
    }

    private static boolean isShelf(int shelf) {
        return within(shelf, 0, SHELVES - 1);
    }

    private static boolean isAmount(int la) {
        return la >= 0 && isLand(la / AMOUNT_PART);
    }

    private static boolean isPair(int ab) {
        return ab >= 0 && isLand(ab / 10) && isLand(ab % 10);
    }

    private static boolean isChange(int ab) {
        return isPair(ab) && ab / 10 != ab % 10;
    }

    private boolean addFromRow(Shelf from, int i, int ahead) {
        int at = i + 4 * ahead;
        if (!from.spans(at, 4)) {
            return false;
        }
        int land = (int) from.cells[at];
        int worth = (int) from.cells[at + 1];
        int size = (int) from.cells[at + 2];
        int weight = (int) from.cells[at + 3];
        return Coins.fits(land, worth, size, weight) && coins.add(land, worth, size, weight);
    }

    private int mendable(int number, int what) {
        switch (what) {
            case 0: return coins.worth[number];
            case 1: return coins.size[number];
            case 2: return coins.weight[number];
            case 3: return things.price[number];
            default: return things.value[number];
        }
    }

    private void tell(int number, int what, int v) {
        switch (what) {
            case 0: coins.worth[number] = v; break;
            case 1: coins.size[number] = v; break;
            case 2: coins.weight[number] = v; break;
            case 3: things.price[number] = v; break;
            default: things.value[number] = v; break;
        }
    }

    private int ofSort(int sort, int what) {
        switch (what) {
            case 0: return coins.land[sort];
            case 1: return coins.worth[sort];
            case 2: return coins.size[sort];
            case 3: return coins.weight[sort];
            default: return coins.held[sort];
        }
    }

    private int ofThing(int thing, int what) {
        switch (what) {
            case 10: return things.land[thing];
            case 11: return things.price[thing];
            case 12: return things.value[thing];
            default: return things.many[thing];
        }
    }

    private int leastSwap(int la, int day, int together) {
        for (int given = 0; given < coins.known; given++) {
            for (int had = 0; had < coins.known; had++) {
                for (int n = 1; n <= GIFT_MOST && n < together; n++) {
                    int m = together - n;
                    if (m <= GIFT_MOST && isFair(day, given, n, had, m) && helps(la, given, n, had, m)) {
                        return given * 1000 + n * 100 + had * 10 + m;
                    }
                }
            }
        }
        return NOT;
    }

    private boolean isFair(int day, int given, int n, int had, int m) {
        if (given == had || coins.held[given] < n || coins.held[had] + m > HELD_MOST) {
            return false;
        }
        int worth = office.exchanged(n * coins.worth[given], coins.land[given], coins.land[had], day);
        return worth >= m * coins.worth[had];
    }

    private boolean helps(int la, int given, int n, int had, int m) {
        int land = la / AMOUNT_PART;
        // Without a coin more of that land nothing more can be paid.
        if (coins.land[had] != land) {
            return false;
        }
        System.arraycopy(coins.held, 0, payer.counts, 0, SORTS);
        payer.counts[given] -= n;
        payer.counts[had] += m;
        payer.spread(coins, payer.counts, land);
        return payer.can(la % AMOUNT_PART);
    }

    private int purseInYear(int y) {
        int sum = 0;
        for (int s = 0; s < coins.known; s++) {
            int worth = coins.worth[s];
            if (years.there && coins.held[s] > 0) {
                worth = yearsWorth(s, y);
            }
            sum += coins.held[s] * worth;
        }
        return sum;
    }

    private int yearsWorth(int sort, int y) {
        years.names[Text.W] = coins.worth[sort];
        years.names[Text.L] = coins.land[sort];
        years.names[Text.S] = coins.size[sort];
        years.names[Text.Y] = y;
        return bounded(years.worked(), 0, KEPT_MOST);
    }

    private int refusalAt(int shelf, int i) {
        if (!isShelf(shelf)) {
            return BAD;
        }
        Shelf at = shelves[shelf];
        if (at.holds == Shelf.EMPTY) {
            return NOTHING;
        }
        if (at.holds != Shelf.ROW) {
            return OTHER_KIND;
        }
        return at.spans(i, 1) ? 0 : NO_PLACE;
    }

    /** The sorts of coins, and how many of each the purse has. */
    private static final class Coins {
        private final int[] land = new int[SORTS];
        private final int[] worth = new int[SORTS];
        private final int[] size = new int[SORTS];
        private final int[] weight = new int[SORTS];
        private final int[] held = new int[SORTS];
        private int known;

        static boolean fits(int land, int worth, int size, int weight) {
            return isLand(land) && within(worth, 1, WORTH_MOST)
                && within(size, 0, TWO_DIGITS_MOST) && within(weight, 0, TWO_DIGITS_MOST);
        }

        boolean knows(int sort) {
            return sort >= 0 && sort < known;
        }

        boolean add(int inLand, int ofWorth, int ofSize, int ofWeight) {
            if (known >= SORTS) {
                return false;
            }
            land[known] = inLand;
            worth[known] = ofWorth;
            size[known] = ofSize;
            weight[known] = ofWeight;
            held[known] = 0;
            known++;
            return true;
        }

        int worthOf(int inLand) {
            int sum = 0;
            for (int s = 0; s < known; s++) {
                sum += land[s] == inLand ? worth[s] * held[s] : 0;
            }
            return sum;
        }

        int heldInAll() {
            int sum = 0;
            for (int s = 0; s < known; s++) {
                sum += held[s];
            }
            return sum;
        }

        int alike(int sort, int g) {
            int bits = 0;
            for (int s = 0; s < known; s++) {
                if (Math.abs(size[s] - size[sort]) <= g && Math.abs(weight[s] - weight[sort]) <= g) {
                    bits |= 1 << s;
                }
            }
            return bits;
        }

        void takeOut(int[] used) {
            for (int s = 0; s < known && s < used.length; s++) {
                held[s] -= used[s];
            }
        }

        int emptyOut(int inLand) {
            int taken = 0;
            for (int s = 0; s < known; s++) {
                if (land[s] == inLand) {
                    taken += held[s];
                    held[s] = 0;
                }
            }
            return taken;
        }

        int bringBack(int inLand, int due) {
            int came = 0;
            for (int n = 0; n < SORTS * HELD_MOST; n++) {
                int s = greatestWithin(inLand, due - came);
                if (s < 0) {
                    break;
                }
                held[s]++;
                came += worth[s];
            }
            return came;
        }

        private int greatestWithin(int inLand, int most) {
            int found = -1;
            for (int s = 0; s < known; s++) {
                boolean comes = land[s] == inLand && worth[s] <= most && held[s] < HELD_MOST;
                if (comes && (found < 0 || worth[s] > worth[found])) {
                    found = s;
                }
            }
            return found;
        }
    }

    /** The things in the shops. */
    private static final class Things {
        private final int[] land = new int[THINGS];
        private final int[] price = new int[THINGS];
        private final int[] value = new int[THINGS];
        private final int[] many = new int[THINGS];
        private int known;

        static boolean fits(int land, int price, int value) {
            return isLand(land) && within(price, 1, PRICE_MOST) && within(value, 0, TWO_DIGITS_MOST);
        }

        boolean knows(int thing) {
            return thing >= 0 && thing < known;
        }

        boolean add(int inLand, int ofPrice, int ofValue, int thereAre) {
            if (known >= THINGS) {
                return false;
            }
            land[known] = inLand;
            price[known] = ofPrice;
            value[known] = ofValue;
            many[known] = bounded(thereAre, 0, MANY_MOST);
            known++;
            return true;
        }
    }

    /** Finds out what can be paid, and with which coins. */
    private static final class Payer {
        private static final int BITS = 64, WORDS = TOTAL_MOST / BITS + 1, NONE = 1 << 31;
        private static final int SORT_BITS = 3, SORT_MASK = 7, ONE_COIN = 1 << SORTS * SORT_BITS;

        // The bit of an amount tells whether it can be paid.
        private final long[] sums = new long[WORDS];
        // The best payment of each amount, as one number: how many coins (below 0 if few are best),
        // then how many of each sort, the first one ahead; so the greatest number is the best payment.
        private final int[] best = new int[TOTAL_MOST + 1];
        private final int[] choice = new int[TOTAL_MOST + 1];
        private final int[] used = new int[SORTS];
        private final int[] counts = new int[SORTS];

        void spread(Coins coins, int[] held, int land) {
            Arrays.fill(sums, 0L);
            sums[0] = 1L;
            for (int s = 0; s < coins.known && s < held.length; s++) {
                int number = coins.land[s] == land ? held[s] : 0;
                for (int c = 0; c < number; c++) {
                    addCoin(coins.worth[s]);
                }
            }
        }

        private void addCoin(int worth) {
            for (int w = WORDS - 1; w > 0; w--) {
                sums[w] |= sums[w] << worth | sums[w - 1] >>> (BITS - worth);
            }
            sums[0] |= sums[0] << worth;
        }

        boolean can(int amount) {
            return amount >= 0 && amount <= TOTAL_MOST && (sums[amount / BITS] >>> (amount % BITS) & 1L) != 0L;
        }

        int sumsAboveZero() {
            int number = 0;
            for (int w = 0; w < WORDS; w++) {
                number += Long.bitCount(sums[w]);
            }
            return number - 1;
        }

        int leastGap() {
            int amount = 1;
            while (amount <= TOTAL_MOST && can(amount)) {
                amount++;
            }
            return amount;
        }

        int leastFrom(int price) {
            for (int amount = price; amount <= TOTAL_MOST; amount++) {
                if (can(amount)) {
                    return amount;
                }
            }
            return NOT;
        }

        /** How many coins pay the amount (the coins are in used then), or NOT. */
        int pay(Coins coins, int land, int amount, boolean most) {
            if (!within(amount, 0, TOTAL_MOST)) {
                return NOT;
            }
            Arrays.fill(best, 0, amount + 1, NONE);
            best[0] = 0;
            for (int s = 0; s < coins.known; s++) {
                int number = coins.land[s] == land ? coins.held[s] : 0;
                int rank = (most ? ONE_COIN : -ONE_COIN) + (1 << placeOf(s));
                for (int c = 0; c < number; c++) {
                    payWithOneMore(coins.worth[s], rank, amount);
                }
            }
            return best[amount] == NONE ? NOT : coinsOf(best[amount], coins.known);
        }

        private static int placeOf(int sort) {
            return (SORTS - 1 - sort) * SORT_BITS;
        }

        private void payWithOneMore(int worth, int rank, int amount) {
            for (int a = amount; a >= worth; a--) {
                int rest = best[a - worth];
                if (rest != NONE) {
                    best[a] = Math.max(best[a], rest + rank);
                }
            }
        }

        private int coinsOf(int rank, int known) {
            int number = 0;
            for (int s = 0; s < SORTS; s++) {
                used[s] = s < known ? rank >> placeOf(s) & SORT_MASK : 0;
                number += used[s];
            }
            return number;
        }

        /** choice[p]: the greatest value of things whose prices come to p, or NONE. */
        void valueChoices(Things things, int land, int total) {
            Arrays.fill(choice, NONE);
            choice[0] = 0;
            for (int t = 0; t < things.known; t++) {
                int many = things.land[t] == land ? things.many[t] : 0;
                for (int m = 0; m < many; m++) {
                    addThing(things.price[t], things.value[t], total);
                }
            }
        }

        private void addThing(int price, int value, int total) {
            for (int p = Math.min(total, TOTAL_MOST); p >= price; p--) {
                int ahead = choice[p - price];
                if (ahead != NONE) {
                    choice[p] = Math.max(choice[p], ahead + value);
                }
            }
        }

        int valueAt(int prices) {
            return within(prices, 0, TOTAL_MOST) ? choice[prices] : 0;
        }

        int greatestChoice(int total) {
            for (int p = Math.min(total, TOTAL_MOST); p > 0; p--) {
                if (choice[p] != NONE && can(p)) {
                    return p;
                }
            }
            return 0;
        }

        int dearestChoice(int total) {
            int found = 0;
            for (int p = 1; p <= total && p <= TOTAL_MOST; p++) {
                if (choice[p] > choice[found] && can(p)) {
                    found = p;
                }
            }
            return found;
        }
    }

    /** A text as it was read: numbers and names as they come, each sign behind what it works on. */
    private static final class Text {
        // Codes: a number for itself, then names, ends of lines, and signs (the one ahead of an O is NEGATED).
        private static final int FIRST_NAME = 10000, WHOLE_LINE = 20000, CHOSEN_LINE = 20001, FIRST_SIGN = 30000;
        private static final int NEGATED = 0;
        private static final int A = 0, B = 1, D = 2, W = 3, L = 4, S = 5, Y = 6;

        private final int[] code = new int[CODES_MOST];
        private final int[] stack = new int[CODES_MOST];
        // Each text sets the names that are its own; the others stay 0.
        private final int[] names = new int[NAMES_MOST];
        private int codes;
        private boolean there;

        static int nameOf(int letter) {
            switch (letter) {
                case 'a': return A;
                case 'b': return B;
                case 'd': return D;
                case 'w': return W;
                case 'l': return L;
                case 's': return S;
                case 'y': return Y;
                default: return -1;
            }
        }

        void become(int[] newCode, int newCodes) {
            codes = 0;
            for (int c = 0; c < newCodes && c < newCode.length && c < CODES_MOST; c++) {
                code[c] = newCode[c];
                codes++;
            }
            there = true;
        }

        int worked() {
            int top = 0;
            for (int c = 0; c < codes && c < CODES_MOST; c++) {
                int does = code[c];
                int operands = operandsOf(does);
                if (top < operands || top - operands >= CODES_MOST) {
                    return 0;
                }
                top -= operands;
                int first = operands > 0 ? stack[top] : 0;
                int second = operands > 1 ? stack[top + 1] : 0;
                if (does == WHOLE_LINE || does == CHOSEN_LINE && first != 0) {
                    return does == WHOLE_LINE ? first : second;
                }
                if (does != CHOSEN_LINE) {
                    stack[top] = does < FIRST_SIGN ? told(does) : joined(does - FIRST_SIGN, first, second);
                    top++;
                }
            }
            return 0;
        }

        private int told(int does) {
            int name = does - FIRST_NAME;
            return name < 0 ? does : name < NAMES_MOST ? names[name] : 0;
        }

        private static int operandsOf(int does) {
            if (does < WHOLE_LINE) {
                return 0;
            }
            return does == WHOLE_LINE || does == FIRST_SIGN + NEGATED || does == FIRST_SIGN + '!' ? 1 : 2;
        }

        private static int joined(int sign, int first, int second) {
            switch (sign) {
                case NEGATED: return -first;
                case '!': return first == 0 ? 1 : 0;
                case '|': return first != 0 || second != 0 ? 1 : 0;
                case '&': return first != 0 && second != 0 ? 1 : 0;
                case '<': return first < second ? 1 : 0;
                case '=': return first == second ? 1 : 0;
                case '>': return first > second ? 1 : 0;
                case '+': return first + second;
                case '-': return first - second;
                case '*': return first * second;
                case '/': return second == 0 ? 0 : first / second;
                case '%': return second == 0 ? 0 : first % second;
                default: return 0;
            }
        }
    }

    /** The tape, and how a text on it is read. */
    private static final class Reader {
        private static final int END = -1, OR = 1, LIKENED = 3, TOP_RANK = 5, DIGITS_MOST = 4;

        private final int[] tape = new int[TAPE_MOST];
        private final int[] code = new int[CODES_MOST];
        private int length;
        private int codes;
        private int place;
        private int fault;

        int add(int letter) {
            if (length >= TAPE_MOST) {
                return FULL;
            }
            tape[length] = letter;
            length++;
            return length;
        }

        /** The fault of the text on the tape, or -1; the tape is empty then. */
        int parse() {
            place = 0;
            codes = 0;
            fault = -1;
            readLine();
            for (int n = 0; n < TAPE_MOST && goesOnWith(';'); n++) {
                readLine();
            }
            if (place < length) {
                fail();
            }
            length = 0;
            return fault;
        }

        private int next() {
            return fault < 0 && place >= 0 && place < length && place < TAPE_MOST ? tape[place] : END;
        }

        private boolean goesOnWith(int sign) {
            if (next() != sign) {
                return false;
            }
            place++;
            return true;
        }

        private void fail() {
            if (fault < 0) {
                fault = place;
            }
        }

        private void write(int does) {
            if (codes < CODES_MOST) {
                code[codes] = does;
                codes++;
            }
        }

        private void readLine() {
            readJoined(OR, 0);
            if (goesOnWith('?')) {
                readJoined(OR, 0);
                write(Text.CHOSEN_LINE);
            } else {
                write(Text.WHOLE_LINE);
            }
        }

        private void readJoined(int lowest, int open) {
            if (lowest > TOP_RANK + 1 || open > OPEN_MOST) {
                fail();
                return;
            }
            readOperand(open);
            int highest = TOP_RANK;
            for (int n = 0; n < TAPE_MOST; n++) {
                int rank = rankOf(next());
                if (rank < lowest || rank > highest) {
                    return;
                }
                readRest(rank, open);
                // What was likened can't be likened again.
                highest = rank == LIKENED ? LIKENED - 1 : rank;
            }
        }

        private void readRest(int rank, int open) {
            int sign = next();
            place++;
            readJoined(rank + 1, open);
            write(Text.FIRST_SIGN + sign);
        }

        private static int rankOf(int sign) {
            switch (sign) {
                case '|': return OR;
                case '&': return 2;
                case '<': case '=': case '>': return LIKENED;
                case '+': case '-': return 4;
                case '*': case '/': case '%': return TOP_RANK;
                default: return 0;
            }
        }

        private void readOperand(int open) {
            int letter = next();
            int name = Text.nameOf(letter);
            if (within(letter, '0', '9')) {
                readNumber();
            } else if (name >= 0) {
                place++;
                write(Text.FIRST_NAME + name);
            } else if (open >= OPEN_MOST) {
                fail();
            } else if (goesOnWith('!')) {
                readJoined(TOP_RANK + 1, open + 1);
                write(Text.FIRST_SIGN + '!');
            } else if (goesOnWith('-')) {
                readJoined(TOP_RANK + 1, open + 1);
                write(Text.FIRST_SIGN + Text.NEGATED);
            } else if (goesOnWith('(')) {
                readJoined(OR, open + 1);
                if (!goesOnWith(')')) {
                    fail();
                }
            } else {
                fail();
            }
        }

        private void readNumber() {
            int number = 0;
            for (int n = 0; n < DIGITS_MOST && within(next(), '0', '9'); n++) {
                number = number * 10 + next() - '0';
                place++;
            }
            write(number);
        }
    }

    /** The window: its rates, what an amount becomes there, and ways over the lands. */
    private static final class Window {
        private final Text rates = new Text();
        private int share;
        private int fee;
        private int goal;
        private int most;
        private int digits;

        int tellShare(int v) {
            int was = share;
            share = v;
            return was;
        }

        int tellFee(int v) {
            int was = fee;
            fee = v;
            return was;
        }

        int rateOf(int a, int b, int day) {
            if (a == b || !rates.there) {
                return THOUSAND;
            }
            rates.names[Text.A] = a;
            rates.names[Text.B] = b;
            rates.names[Text.D] = day;
            return bounded(rates.worked(), 1, RATE_MOST);
        }

        int exchanged(int x, int a, int b, int day) {
            return (int) ((long) x * rateOf(a, b, day) / THOUSAND);
        }

        int changed(int x, int a, int b, int day) {
            long all = (long) x * rateOf(a, b, day) / THOUSAND;
            long shared = (all * share + 99) / 100;
            return (int) Math.max(0L, all - shared - fee);
        }

        /** The best way from a to b, or the best round if they are one. */
        void search(int x, int a, int b, int day) {
            goal = b;
            most = -1;
            digits = 0;
            goOn(x, a, day, a + 1, 1 << a);
        }

        private void goOn(int x, int at, int day, int row, int seen) {
            // No row is longer than all lands and the goal.
            if (row >= 100000) {
                return;
            }
            for (int next = 0; next < LANDS; next++) {
                if (next == goal ? at != goal : (seen >> next & 1) == 0) {
                    step(x, at, next, day, row, seen);
                }
            }
        }

        private void step(int x, int at, int next, int day, int row, int seen) {
            int becomes = changed(x, at, next, day);
            int longer = row * 10 + next + 1;
            if (next != goal) {
                goOn(becomes, next, day + 1, longer, seen | 1 << next);
            } else if (becomes > most) {
                most = becomes;
                digits = longer;
            }
        }
    }

    /** Counts the heaps of coins of one land. */
    private static final class Heap {
        private final int[] worth = new int[SORTS];
        private final int[] weight = new int[SORTS];
        private int number;

        int ways(Coins coins, int land, int n, int w, int g) {
            number = 0;
            for (int s = 0; s < coins.known; s++) {
                if (coins.land[s] == land) {
                    worth[number] = coins.worth[s];
                    weight[number] = coins.weight[s];
                    number++;
                }
            }
            return waysFrom(0, n, w, g);
        }

        private int waysFrom(int first, int n, int w, int g) {
            if (w < 0 || g < 0) {
                return 0;
            }
            if (first >= number) {
                return n == 0 && w == 0 && g == 0 ? 1 : 0;
            }
            if (first == number - 1) {
                return n * worth[first] == w && n * weight[first] == g ? 1 : 0;
            }
            if (first == number - 2) {
                return waysOfTwo(first, n, w, g);
            }
            int sum = 0;
            for (int c = 0; c <= n; c++) {
                sum += waysBehind(first, c, n, w, g);
            }
            return sum;
        }

        private int waysBehind(int first, int c, int n, int w, int g) {
            return waysFrom(first + 1, n - c, w - c * worth[first], g - c * weight[first]);
        }

        // Two equations tell the last two numbers at once; trying them all would take far longer.
        private int waysOfTwo(int first, int n, int w, int g) {
            int unlikeWorth = worth[first] - worth[first + 1];
            int unlikeWeight = weight[first] - weight[first + 1];
            int moreWorth = w - n * worth[first + 1];
            int moreWeight = g - n * weight[first + 1];
            if (unlikeWorth == 0 && unlikeWeight == 0) {
                return moreWorth == 0 && moreWeight == 0 ? n + 1 : 0;
            }
            int c = unlikeWorth != 0 ? moreWorth / unlikeWorth : moreWeight / unlikeWeight;
            return within(c, 0, n) && c * unlikeWorth == moreWorth && c * unlikeWeight == moreWeight ? 1 : 0;
        }
    }

    /** The changes that can be undone and done again. */
    private static final class Changes {
        private final int[] number = new int[CHANGES_MOST];
        private final int[] what = new int[CHANGES_MOST];
        private final int[] was = new int[CHANGES_MOST];
        private final int[] became = new int[CHANGES_MOST];
        private int done;
        private int stored;

        void add(int ofNumber, int ofWhat, int from, int to) {
            if (done >= CHANGES_MOST) {
                forgetFirst();
            }
            number[done] = ofNumber;
            what[done] = ofWhat;
            was[done] = from;
            became[done] = to;
            done++;
            stored = done;
        }

        private void forgetFirst() {
            for (int c = 1; c < CHANGES_MOST; c++) {
                number[c - 1] = number[c];
                what[c - 1] = what[c];
                was[c - 1] = was[c];
                became[c - 1] = became[c];
            }
            done = CHANGES_MOST - 1;
        }

        int stepBack() {
            if (done <= 0) {
                return -1;
            }
            done--;
            return done;
        }

        int stepOn() {
            if (done >= stored) {
                return -1;
            }
            done++;
            return done - 1;
        }
    }

    /** The image of the purse, the things and what is led. */
    private static final class Image {
        private final int[] held = new int[SORTS];
        private final int[] many = new int[THINGS];
        private final int[] ledger = new int[LED_MOST];
        private int sortsThen;
        private int thingsThen;
        private boolean there;

        void take(Coins coins, Things things, int[] led) {
            System.arraycopy(coins.held, 0, held, 0, SORTS);
            System.arraycopy(things.many, 0, many, 0, THINGS);
            System.arraycopy(led, 0, ledger, 0, LED_MOST);
            sortsThen = coins.known;
            thingsThen = things.known;
            there = true;
        }

        void restore(Coins coins, Things things, int[] led) {
            for (int s = 0; s < coins.known; s++) {
                coins.held[s] = s < sortsThen ? held[s] : 0;
            }
            for (int t = 0; t < things.known && t < thingsThen; t++) {
                things.many[t] = many[t];
            }
            System.arraycopy(ledger, 0, led, 0, LED_MOST);
        }
    }

    /** The deeds, their kinds, and the trace of the latest act. */
    private static final class Deeds {
        private static final int PAYS = 0, CHANGING = 1, SWAPS = 2, TELLS = 3;
        private static final int[] ABOVE = {-1, 0, 0, 2, 0, 1, 4, 3};
        // By kinds, the bodies of pays, changes, swaps, tells; 0: the kind has none of its own.
        private static final int[] BODY_OF = {
            1, 10, 11, 2,
            20, 0, 0, 0,
            0, 30, 0, 0,
            0, 41, 40, 0,
            0, 0, 50, 0,
            0, 0, 0, 60,
            70, 0, 0, 0,
            0, 80, 0, 81,
        };

        private final int[] kinds = new int[BODIES_MOST];
        private final int[] bodies = new int[TRACE_MOST];
        private int known;
        private int ran;
        private int actor;

        boolean knows(int deed) {
            return deed >= 0 && deed < known;
        }

        int add(int kind) {
            if (known >= BODIES_MOST) {
                return FULL;
            }
            kinds[known] = kind;
            known++;
            return known - 1;
        }

        int kindOf(int deed) {
            return knows(deed) ? kinds[deed] : -1;
        }

        static boolean isUnder(int kind, int top) {
            int at = kind;
            for (int n = 0; n < KINDS && at >= 0 && at < KINDS; n++) {
                if (at == top) {
                    return true;
                }
                at = ABOVE[at];
            }
            return false;
        }

        int begin(int deed, int act, int x) {
            ran = 0;
            if (!knows(deed) || !within(act, 0, ACTS - 1)) {
                return 0;
            }
            actor = deed;
            return own(act, x, 0);
        }

        private int own(int act, int x, int depth) {
            return from(kindOf(actor), act, x, depth);
        }

        private int from(int kind, int act, int x, int depth) {
            int at = kind;
            for (int n = 0; n < KINDS && at >= 0 && at < KINDS && depth < DEPTH_MOST; n++) {
                int body = BODY_OF[at * ACTS + act];
                if (body != 0) {
                    note(body);
                    return run(body, ABOVE[at], x, depth + 1);
                }
                at = ABOVE[at];
            }
            return 0;
        }

        private void note(int body) {
            if (ran < TRACE_MOST) {
                bodies[ran] = body;
            }
            ran++;
        }

        private int run(int body, int above, int x, int depth) {
            switch (body) {
                case 1: return x + actor;
                case 2: return own(CHANGING, x, depth) - own(SWAPS, 1, depth);
                case 10: return own(PAYS, x, depth) * 2;
                case 11: return x ^ actor;
                case 20: return from(above, PAYS, x, depth) + 3;
                case 30: return -from(above, CHANGING, x, depth);
                case 40: return from(above, SWAPS, x, depth) * 3;
                case 41: return from(above, CHANGING, x + 1, depth);
                case 50: return from(above, SWAPS, x, depth) - own(PAYS, 2, depth);
                case 60: return from(above, TELLS, x, depth) ^ 5;
                case 70: return from(above, PAYS, x, depth) * 2;
                case 80: return from(above, CHANGING, x, depth) + own(SWAPS, 2, depth);
                case 81: return from(above, TELLS, x, depth) - 1;
                default: return 0;
            }
        }
    }

    /** A shelf: nothing, a deed, or a row; one row of longs serves every sort. */
    private static final class Shelf {
        private static final int EMPTY = 0, DEED = 1, ROW = 2;
        private static final int BYTES = 0, SHORTS = 1, INTS = 2, LONGS = 3, BOOLEANS = 4;

        private final long[] cells = new long[ROW_MOST];
        private int holds;
        private int deed;
        private int sort;
        private int size;

        void holdDeed(int number) {
            holds = number < 0 ? EMPTY : DEED;
            deed = number;
            size = 0;
        }

        void holdRow(int ofSort, int n) {
            holds = ROW;
            sort = ofSort;
            size = bounded(n, 0, ROW_MOST);
            Arrays.fill(cells, 0L);
        }

        boolean spans(int i, int n) {
            return i >= 0 && n >= 0 && i <= size && n <= size - i;
        }

        void store(int i, long v) {
            if (spans(i, 1)) {
                cells[i] = lowest(v);
            }
        }

        private long lowest(long v) {
            switch (sort) {
                case BYTES: return (byte) v;
                case SHORTS: return (short) v;
                case INTS: return (int) v;
                case LONGS: return v;
                default: return v != 0L ? 1L : 0L;
            }
        }
    }
}
