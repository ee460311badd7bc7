/** The boundary cases of promises 13 to 18, and of what section 2 of the terms says. */
public final class EdgesPayingTest {
    public static void main(String[] args) {
        paidAmounts();
        paidLandsAndHow();
        paidJust();
        paidFewestAndMost();
        paidOfLikeOnes();
        paidOfASort();
        amounts();
        amountsOfAFullPurse();
        spendManyOfEach();
        spendWhatCanBePaid();
        spendLeft();
        spendMost();
        spendAFullPurse();
        spendAsked();
        buyByRule0();
        buyByRule1();
        buyByRule2();
        buyLeastAmount();
        buyWithTheMostCoins();
        greatestCoinThatComes();
        fewerThanSixOfIt();
        allThatCanCome();
        ofLikeWorthTheFirst();
        changeOfOtherLands();
        manyIsOneLess();
        buyStates();
        likeOffByG();
        likeBits();
        standInButItself();
        standInLeast();
        standInAsked();
        Due.close();
    }

    // ---- paid

    private static void paidAmounts() {
        Due.says("PAID an amount (0 .. 9999) of a LAND (la: 10000 times the LAND, and the amount)");
        Due.range("la", 0, 39999, -1, la -> new CoinsOfLast().paid(la, 0, -1));
        CoinsOfLast x = Due.withCoins(7, 2);
        Due.is("land 0, amount 7", x.paid(7, 0, -1), -2);
        Due.is("land 0, amount 9999", x.paid(9999, 0, -1), -2);
        Due.is("land 1, amount 0", x.paid(10000, 0, -1), 0);
        Due.is("land 1, amount 7", x.paid(10007, 0, -1), 1);
        Due.is("land 1, amount 9999", x.paid(19999, 0, -1), -2);
        Due.is("land 2, amount 0", x.paid(20000, 0, -1), 0);
        Due.is("land 2, amount 7", x.paid(20007, 0, -1), -2);
        Due.is("land 3, amount 9999", x.paid(39999, 0, -1), -2);
        Due.is("land 4, amount 0", x.paid(40000, 0, -1), -1);
        Due.is("below 0", x.paid(-1, 0, -1), -1);
        Due.is("far below 0", x.paid(-9993, 0, -1), -1);
    }

    private static void paidLandsAndHow() {
        Due.says("with the fewest (how 0), the most (1) coins: how many (sort -1), how many of a SORT. BAD; NOT.");
        Due.range("how", 0, 1, -1, how -> Due.withCoins(7, 2).paid(10007, how, -1));
        Due.range("sort", -1, 1, -1, sort -> Due.withCoins(7, 2, 3, 1).paid(10007, 0, sort));
        Due.is("bad ahead of not", Due.withCoins(7, 2).paid(10008, 2, -1), -1);
        Due.is("bad ahead of not", Due.withCoins(7, 2).paid(10008, 0, 1), -1);
        Due.is("not", Due.withCoins(7, 2).paid(10008, 0, 0), -2);
        Due.is("not", Due.withCoins(7, 2).paid(10008, 1, -1), -2);
    }

    private static void paidJust() {
        Due.says("PAID: an amount that coins of THE PURSE of a LAND come to just");
        for (int how = 0; how < 2; how++) {
            CoinsOfLast x = Due.withCoins(7, 2);
            int[] want = {0, -2, -2, -2, -2, -2, -2, 1, -2, -2, -2, -2, -2, -2, 2, -2, -2, -2, -2, -2, -2, -2};
            for (int amount = 0; amount < want.length; amount++) {
                Due.is("paid " + amount, x.paid(10000 + amount, how, -1), want[amount]);
            }
            x.purse(0, 1);
            Due.is("one coin less", x.paid(10014, how, -1), -2);
            Due.is("one coin", x.paid(10007, how, -1), 1);
            x.purse(0, 0);
            Due.is("no coin", x.paid(10007, how, -1), -2);
            Due.is("nothing without a coin", x.paid(10000, how, -1), 0);
            Due.is("nothing of nothing", new CoinsOfLast().paid(0, how, -1), 0);
            Due.is("one of nothing", new CoinsOfLast().paid(1, how, -1), -2);
            CoinsOfLast y = Due.withCoins(40, 6, 40, 6, 40, 6, 40, 6, 40, 6, 40, 6, 40, 6, 40, 6);
            Due.is("below all", y.paid(11919, how, -1), -2);
            Due.is("all", y.paid(11920, how, -1), 48);
            Due.is("above all", y.paid(11921, how, -1), -2);
        }
    }

    private static void paidFewestAndMost() {
        Due.says("with the fewest, with the most coins");
        CoinsOfLast x = Due.withCoins(1, 6, 2, 3);
        int[] fewest = {0, 1, 1, 2, 2, 3, 3, 4, 5, 6, 7, 8, 9, -2};
        int[] most = {0, 1, 2, 3, 4, 5, 6, 6, 7, 7, 8, 8, 9, -2};
        for (int amount = 0; amount < fewest.length; amount++) {
            Due.is("fewest for " + amount, x.paid(10000 + amount, 0, -1), fewest[amount]);
            Due.is("most for " + amount, x.paid(10000 + amount, 1, -1), most[amount]);
        }
    }

    private static void paidOfLikeOnes() {
        Due.says("of like ones that with most of the first SORT, then of the next one, and so on.");
        // 12 by two coins: 6 and 6, 5 and 7, 4 and 8.
        int[][] orders = {{6, 2, 5, 1, 7, 1, 4, 1, 8, 1}, {5, 1, 7, 1, 6, 2, 4, 1, 8, 1}, {8, 1, 6, 2, 5, 1, 7, 1, 4, 1}};
        int[][] wants = {{2, 0, 0, 0, 0}, {1, 1, 0, 0, 0}, {1, 0, 0, 0, 1}};
        for (int i = 0; i < orders.length; i++) {
            CoinsOfLast x = Due.withCoins(orders[i]);
            Due.is("coins", x.paid(10012, 0, -1), 2);
            for (int s = 0; s < 5; s++) {
                Due.is("order " + i + ", sort " + s, x.paid(10012, 0, s), wants[i][s]);
            }
        }
        // Eight like sorts: the first ones go, as far as there are any.
        CoinsOfLast y = Due.withCoins(3, 6, 3, 1, 3, 0, 3, 6, 3, 6, 3, 6, 3, 6, 3, 6);
        for (int how = 0; how < 2; how++) {
            for (int n = 0; n <= 37; n++) {
                int[] held = {6, 1, 0, 6, 6, 6, 6, 6};
                int still = n;
                for (int s = 0; s < 8; s++) {
                    int used = Math.min(still, held[s]);
                    Due.is(n + " coins, sort " + s, y.paid(10000 + 3 * n, how, s), used);
                    still -= used;
                }
            }
            if (how == 0) {
                y = Due.withCoins(3, 6, 3, 1, 3, 0, 3, 6, 3, 6, 3, 6, 3, 6, 3, 6);
            }
        }
        CoinsOfLast z = Due.withCoins(2, 6, 1, 6, 3, 6);
        // 9 with the most: 6 ones and a 3 or 5 ones and two 2; the 2 is the first.
        Due.is("most", z.paid(10009, 1, -1), 7);
        Due.is("of the first", z.paid(10009, 1, 0), 2);
        Due.is("of the second", z.paid(10009, 1, 1), 5);
        Due.is("of the third", z.paid(10009, 1, 2), 0);
    }

    private static void paidOfASort() {
        Due.says("how many (sort -1), how many of a SORT.");
        CoinsOfLast x = Due.withCoins(10, 2, 5, 1);
        x.sort(210, 0);
        x.purse(2, 6);
        Due.is("coins", x.paid(10025, 0, -1), 3);
        Due.is("of the first", x.paid(10025, 0, 0), 2);
        Due.is("of the second", x.paid(10025, 0, 1), 1);
        Due.is("of another land", x.paid(10025, 0, 2), 0);
        Due.is("of no sort", x.paid(10025, 0, 3), -1);
        Due.is("sort -2", x.paid(10025, 0, -2), -1);
        Due.is("nothing", x.paid(10000, 0, 0), 0);
        Due.is("the other land's", x.paid(20060, 1, 2), 6);
        Due.is("the other land's first", x.paid(20060, 1, 0), 0);
        Due.is("the purse stays", x.count(2), 9);
    }

    // ---- amounts

    private static void amountsDue(CoinsOfLast x, int number, int least) {
        Due.is("amounts", x.amounts(1, 0), number);
        Due.is("the least that can't", x.amounts(1, 1), least);
    }

    private static void amounts() {
        Due.says("How many unlike amounts above 0 of a LAND can be PAID (what 0), the least amount above 0 that can't (1). BAD.");
        Due.range("what", 0, 1, -1, what -> Due.withCoins(1, 1).amounts(1, what));
        amountsDue(new CoinsOfLast(), 0, 1);
        amountsDue(Due.withCoins(1, 0), 0, 1);
        amountsDue(Due.withCoins(1, 1), 1, 2);
        amountsDue(Due.withCoins(1, 6), 6, 7);
        amountsDue(Due.withCoins(2, 1), 1, 1);
        amountsDue(Due.withCoins(2, 1, 2, 1), 2, 1);
        amountsDue(Due.withCoins(1, 1, 2, 1), 3, 4);
        amountsDue(Due.withCoins(1, 1, 3, 1), 3, 2);
        amountsDue(Due.withCoins(1, 2, 3, 1), 5, 6);
        amountsDue(Due.withCoins(1, 1, 1, 1, 1, 1), 3, 4);
        amountsDue(Due.withCoins(40, 6, 39, 6), 48, 1);
        CoinsOfLast x = Due.withCoins(1, 6);
        Due.is("of land 0", x.amounts(0, 0), 0);
        Due.is("of land 2", x.amounts(2, 1), 1);
    }

    private static void amountsOfAFullPurse() {
        Due.says("How many unlike amounts above 0 of a LAND can be PAID (what 0), the least amount above 0 that can't (1). BAD.");
        amountsDue(Due.withCoins(40, 6, 40, 6, 40, 6, 40, 6, 40, 6, 40, 6, 40, 6, 40, 6), 48, 1);
        amountsDue(Due.withCoins(1, 6, 1, 6, 1, 6, 1, 6, 1, 6, 1, 6, 1, 6, 1, 6), 48, 49);
        // 1 to 42 by ones and sevens, and 36 forties: no gap up to 48 + 1440.
        amountsDue(Due.withCoins(1, 6, 7, 6, 40, 6, 40, 6, 40, 6, 40, 6, 40, 6, 40, 6), 1488, 1489);
        // 1 to 63 (the last bit of the first word of 64), 64 and 65.
        amountsDue(Due.withCoins(1, 3, 4, 3, 16, 3), 63, 64);
        amountsDue(Due.withCoins(1, 4, 4, 3, 16, 3), 64, 65);
        amountsDue(Due.withCoins(1, 5, 4, 3, 16, 3), 65, 66);
    }

    // ---- spend

    private static void spendDue(CoinsOfLast x, int which, int left, int value, int prices) {
        Due.is("left", x.spend(1, which, 0), left);
        Due.is("value", x.spend(1, which, 1), value);
        Due.is("prices", x.spend(1, which, 2), prices);
    }

    private static void spendManyOfEach() {
        Due.says("of all choices of THINGS of a LAND (0 to MANY of each)");
        for (int many : new int[] {0, 1, 2, 8, 9}) {
            CoinsOfLast x = Due.withCoins(1, 6, 1, 6);
            x.thing(1001, 10 + many);
            spendDue(x, 0, 12 - many, many, many);
            spendDue(x, 1, 12 - many, many, many);
            x.thing(1001, 20 + many);
            int both = Math.min(12, 2 * many);
            spendDue(x, 0, 12 - both, 2 * Math.min(many, 12) + both - Math.min(many, 12), both);
        }
        CoinsOfLast y = Due.withCoins(1, 6);
        y.thing(2001, 999);
        y.thing(1, 999);
        spendDue(y, 0, 6, 0, 0);
        spendDue(y, 1, 6, 0, 0);
        Due.is("of land 2 nothing is left", y.spend(2, 0, 0), 0);
        Due.is("of land 2 nothing is had", y.spend(2, 1, 1), 0);
        spendDue(Due.withCoins(1, 6), 0, 6, 0, 0);
        spendDue(new CoinsOfLast(), 1, 0, 0, 0);
        // All ten things, with nine of each: 90 of them, as far as 48 coins go.
        CoinsOfLast z = Due.withCoins(1, 6, 1, 6, 1, 6, 1, 6, 1, 6, 1, 6, 1, 6, 1, 6);
        for (int t = 0; t < 10; t++) {
            z.thing(1001, 10 * t + 9);
        }
        spendDue(z, 0, 0, 9 * (9 + 8 + 7 + 6 + 5) + 3 * 4, 48);
        spendDue(z, 1, 0, 9 * (9 + 8 + 7 + 6 + 5) + 3 * 4, 48);
    }

    private static void spendWhatCanBePaid() {
        Due.says("whose PRICES together can be PAID");
        int[] left = {13, 13, 10, 13, 13, 13, 13, 13, 13, 3, 13, 13, 0, 13, 13};
        for (int price = 1; price <= left.length; price++) {
            CoinsOfLast x = Due.withCoins(10, 1, 3, 1);
            x.thing(1000 + price, 71);
            int want = left[price - 1];
            for (int which = 0; which < 2; which++) {
                spendDue(x, which, want, want < 13 ? 7 : 0, 13 - want);
            }
        }
        // 4 and 6 can be paid together, neither alone.
        CoinsOfLast y = Due.withCoins(10, 1);
        y.thing(1004, 11);
        y.thing(1006, 21);
        spendDue(y, 0, 0, 3, 10);
        spendDue(y, 1, 0, 3, 10);
        y.mend(1, 3, 5);
        spendDue(y, 0, 10, 0, 0);
        y.mend(1, 3, 7);
        spendDue(y, 1, 10, 0, 0);
        // The dearest thing there may be: 200 of 200, and of 199.
        CoinsOfLast z = Due.withCoins(40, 5);
        z.thing(1200, 991);
        spendDue(z, 0, 0, 99, 200);
        CoinsOfLast w = Due.withCoins(40, 4, 39, 1);
        w.thing(1200, 991);
        spendDue(w, 0, 199, 0, 0);
    }

    private static void spendLeft() {
        Due.says("that by which least of THE PURSE's WORTH of that LAND is left; of like ones the greatest VALUE: that left, VALUE, PRICES.");
        CoinsOfLast x = Due.withCoins(1, 6);
        x.thing(1004, 991);
        x.thing(1005, 11);
        spendDue(x, 0, 1, 1, 5);
        x.thing(1005, 21);
        spendDue(x, 0, 1, 2, 5);
        x.thing(1005, 21);
        spendDue(x, 0, 1, 2, 5);
        x.thing(1002, 1);
        spendDue(x, 0, 0, 99, 6);
        x.thing(1001, 1);
        spendDue(x, 0, 0, 99, 6);
        x.mend(0, 4, 0);
        spendDue(x, 0, 0, 2, 6);
        // Things of no value go, too.
        CoinsOfLast y = Due.withCoins(1, 6);
        y.thing(1006, 1);
        spendDue(y, 0, 0, 0, 6);
    }

    private static void spendMost() {
        Due.says("MOST: of them the one with the greatest VALUE, then the least PRICES: likewise.");
        CoinsOfLast x = Due.withCoins(5, 2);
        x.thing(1005, 71);
        x.thing(1010, 61);
        spendDue(x, 1, 5, 7, 5);
        x.mend(1, 4, 7);
        spendDue(x, 1, 5, 7, 5);
        spendDue(x, 0, 0, 7, 10);
        x.mend(1, 4, 8);
        spendDue(x, 1, 0, 8, 10);
        CoinsOfLast y = Due.withCoins(1, 6);
        y.thing(1006, 1);
        // Of no value at all: nothing is bought.
        spendDue(y, 1, 6, 0, 0);
        y.mend(0, 4, 1);
        spendDue(y, 1, 0, 1, 6);
    }

    private static void spendAFullPurse() {
        Due.says("that by which least of THE PURSE's WORTH of that LAND is left");
        CoinsOfLast x = Due.withCoins(40, 6, 40, 6, 40, 6, 40, 6, 40, 6, 40, 6, 40, 6, 40, 6);
        x.thing(1160, 19);
        x.thing(1160, 13);
        x.thing(1200, 3);
        // 12 of 160 are all of 1920.
        spendDue(x, 0, 0, 12, 1920);
        spendDue(x, 1, 0, 12, 1920);
        x.purse(7, 5);
        // 1880 is 8 of 160 and 3 of 200.
        spendDue(x, 0, 0, 8, 1880);
        spendDue(x, 1, 120, 11, 1760);
        x.purse(7, 6);
        x.mend(0, 3, 159);
        x.mend(1, 3, 161);
        // No more than three pairs of both, which make 320 each: 960, and 600.
        spendDue(x, 0, 360, 6, 1560);
        spendDue(x, 1, 960, 6, 960);
    }

    private static void spendAsked() {
        Due.says("LEFT (which 0), MOST (1): left (what 0), VALUE (1), PRICES (2). BAD.");
        CoinsOfLast x = Due.withCoins(1, 6);
        x.thing(1004, 991);
        Due.range("which", 0, 1, -1, which -> x.spend(1, which, 0));
        Due.range("what", 0, 2, -1, what -> x.spend(1, 0, what));
        Due.range("what", 0, 2, -1, what -> x.spend(1, 1, what));
        Due.is("many stays", x.of(0, 13), 1);
        Due.is("the purse stays", x.of(1, 21), 6);
        Due.is("nothing is spent", x.led(1), 0);
    }

    // ---- buy

    /** Due is what one thing of a price costs, and what is lost by it. */
    private static void bought(CoinsOfLast x, int rule, int price, int want, int lost) {
        x.rule(1, rule);
        x.thing(1000 + price, 1);
        int before = x.of(1, 21);
        Due.is("buy for " + price, x.buy(0), want);
        Due.is("lost", x.led(0), want < 0 ? 0 : lost);
        Due.is("spent", x.led(1), Math.max(want, 0));
        Due.is("many", x.of(0, 13), want < 0 ? 1 : 0);
        Due.is("the purse", x.of(1, 21), before - Math.max(want, 0));
    }

    private static void buyByRule0() {
        Due.says("by RULE 0 PAID with the most coins (NOT: it can't be)");
        bought(Due.withCoins(10, 2), 0, 9, -2, 0);
        bought(Due.withCoins(10, 2), 0, 10, 10, 0);
        bought(Due.withCoins(10, 2), 0, 11, -2, 0);
        bought(Due.withCoins(10, 2), 0, 19, -2, 0);
        bought(Due.withCoins(10, 2), 0, 20, 20, 0);
        bought(Due.withCoins(10, 2), 0, 21, -2, 0);
        bought(new CoinsOfLast(), 0, 1, -2, 0);
        bought(Due.withCoins(1, 1), 0, 1, 1, 0);
        bought(Due.withCoins(40, 5), 0, 200, 200, 0);
        bought(Due.withCoins(40, 4, 39, 1), 0, 200, -2, 0);
    }

    private static void buyByRule1() {
        Due.says("by 1 what is more is LOST");
        bought(Due.withCoins(10, 2), 1, 1, 10, 9);
        bought(Due.withCoins(10, 2), 1, 9, 10, 1);
        bought(Due.withCoins(10, 2), 1, 10, 10, 0);
        bought(Due.withCoins(10, 2), 1, 11, 20, 9);
        bought(Due.withCoins(10, 2), 1, 19, 20, 1);
        bought(Due.withCoins(10, 2), 1, 20, 20, 0);
        bought(Due.withCoins(10, 2), 1, 21, -2, 0);
        bought(new CoinsOfLast(), 1, 1, -2, 0);
        bought(Due.withCoins(40, 5), 1, 199, 200, 1);
        bought(Due.withCoins(40, 5), 1, 200, 200, 0);
        bought(Due.withCoins(40, 4, 39, 1), 1, 200, -2, 0);
    }

    private static void buyByRule2() {
        Due.says("by 2 it comes back");
        bought(Due.withCoins(10, 2, 1, 0), 2, 9, 9, 0);
        bought(Due.withCoins(10, 2, 1, 0), 2, 10, 10, 0);
        bought(Due.withCoins(10, 2, 1, 0), 2, 11, 14, 3);
        bought(Due.withCoins(10, 2, 1, 0), 2, 14, 14, 0);
        bought(Due.withCoins(10, 2, 1, 0), 2, 13, 14, 1);
        bought(Due.withCoins(10, 2, 1, 0), 2, 4, 4, 0);
        bought(Due.withCoins(10, 2, 1, 0), 2, 3, 4, 1);
        bought(Due.withCoins(10, 2), 2, 9, 10, 1);
        bought(Due.withCoins(10, 2), 2, 20, 20, 0);
        bought(Due.withCoins(10, 2), 2, 21, -2, 0);
        bought(new CoinsOfLast(), 2, 1, -2, 0);
    }

    private static void buyLeastAmount() {
        Due.says("by 1, 2 the least amount not below PRICE that can be PAID (NOT: none)");
        int[][] wants = {{1, 30}, {29, 30}, {30, 30}, {31, 40}, {39, 40}, {40, 40}, {41, 70}, {69, 70}, {70, 70}, {71, -2}, {200, -2}};
        for (int[] want : wants) {
            for (int rule = 1; rule <= 2; rule++) {
                CoinsOfLast x = Due.withCoins(30, 1, 40, 1);
                // By rule 2 nothing comes back of a rest below 30.
                int rest = want[1] - want[0];
                bought(x, rule, want[0], want[1], rest);
            }
        }
        CoinsOfLast y = Due.withCoins(40, 6, 40, 6, 40, 6, 40, 6, 40, 6, 40, 6, 40, 6, 40, 6);
        bought(y, 1, 199, 200, 1);
    }

    private static void buyWithTheMostCoins() {
        Due.says("with the most coins; by 1 what is more is LOST");
        for (int rule = 0; rule <= 2; rule++) {
            CoinsOfLast x = Due.withCoins(10, 1, 5, 2, 2, 2);
            x.rule(1, rule);
            x.thing(1010, 9);
            x.thing(1009, 9);
            Due.is("buy", x.buy(0), 10);
            // 5 and 5; 10 alone would be one coin, 5, 2 and 2 just 9.
            Due.is("of 10", x.of(0, 4), 1);
            Due.is("of 5", x.of(1, 4), 0);
            Due.is("of 2", x.of(2, 4), 2);
            x.purse(1, 2);
            Due.is("buy", x.buy(1), 9);
            Due.is("of 10", x.of(0, 4), 1);
            Due.is("of 5", x.of(1, 4), 1);
            Due.is("of 2", x.of(2, 4), 0);
        }
        // Of like ones that with most of the first sort goes.
        CoinsOfLast y = Due.withCoins(5, 2, 5, 3);
        y.thing(1015, 9);
        y.buy(0);
        Due.is("of the first", y.of(0, 4), 0);
        Due.is("of the second", y.of(1, 4), 2);
    }

    private static void greatestCoinThatComes() {
        Due.says("again and again the greatest coin of the LAND (of like WORTH the first) that is no more than what is still to come");
        // 40 for 33: 7 to come.
        int[][] worthsAndWants = {{6, 6, 1}, {7, 7, 0}, {8, 0, 7}, {3, 6, 1}, {4, 4, 3}, {1, 6, 1}};
        for (int[] w : worthsAndWants) {
            CoinsOfLast x = Due.withCoins(40, 1, w[0], 0);
            x.rule(1, 2);
            x.thing(1033, 1);
            Due.is("back by " + w[0], x.buy(0), 40 - w[1]);
            Due.is("lost", x.led(0), w[2]);
            Due.is("spent", x.led(1), 40 - w[1]);
            Due.is("coins", x.of(1, 4), w[1] / w[0]);
        }
        // 7 to come: 5, then 2 of 1 (3 is too much), though 3 and 4 would do it.
        CoinsOfLast y = Due.withCoins(40, 1, 1, 0, 3, 0, 5, 0);
        y.rule(1, 2);
        y.thing(1033, 1);
        Due.is("back", y.buy(0), 33);
        Due.is("of 1", y.of(1, 4), 2);
        Due.is("of 3", y.of(2, 4), 0);
        Due.is("of 5", y.of(3, 4), 1);
        // Greedy: 6 to come by 4, then nothing, though 3 and 3 would do it.
        CoinsOfLast z = Due.withCoins(40, 1, 3, 0, 4, 0);
        z.rule(1, 2);
        z.thing(1034, 1);
        Due.is("back", z.buy(0), 36);
        Due.is("lost", z.led(0), 2);
        Due.is("of 3", z.of(1, 4), 0);
        Due.is("of 4", z.of(2, 4), 1);
        // The coin that was paid can't come for less than itself; another like it can't either.
        bought(Due.withCoins(40, 1), 2, 1, 40, 39);
    }

    private static void fewerThanSixOfIt() {
        Due.says("as long as THE PURSE has fewer than 6 of it; what can't come so is LOST.");
        // 40 for 37, where ones are 40 less: 3 to come by ones.
        for (int held = 0; held <= 6; held++) {
            CoinsOfLast x = Due.withCoins(40, 1, 1, held);
            x.rule(1, 2);
            x.thing(1037, 1);
            int came = Math.min(3, 6 - held);
            Due.is("with " + held, x.buy(0), 40 - came);
            Due.is("lost", x.led(0), 3 - came);
            Due.is("ones", x.of(1, 4), held + came);
        }
        // When there are 6 of the greatest one the next greatest comes.
        for (int held = 4; held <= 6; held++) {
            CoinsOfLast x = Due.withCoins(40, 1, 3, held, 1, 0);
            x.rule(1, 2);
            x.thing(1034, 1);
            int threes = Math.min(2, 6 - held);
            int ones = 6 - 3 * threes;
            Due.is("with " + held, x.buy(0), 34);
            Due.is("threes", x.of(1, 4), held + threes);
            Due.is("ones", x.of(2, 4), ones);
        }
        // The coins that were paid make room: 6 of 7 go, 5 of them are for 1.
        CoinsOfLast y = Due.withCoins(7, 6, 1, 6);
        y.rule(1, 2);
        y.thing(1047, 1);
        Due.is("all but one", y.buy(0), 47);
        Due.is("ones", y.of(1, 4), 1);
    }

    private static void allThatCanCome() {
        Due.says("as long as THE PURSE has fewer than 6 of it; what can't come so is LOST.");
        // 40 for 1 to 6: 39 to 34 to come by as many ones of up to seven sorts, six of each at most.
        for (int price = 1; price <= 6; price++) {
            for (int ones = 0; ones <= 7; ones++) {
                CoinsOfLast x = Due.withCoins(40, 1);
                for (int s = 0; s < ones; s++) {
                    x.sort(101, 0);
                }
                x.rule(1, 2);
                x.thing(1000 + price, 1);
                int came = Math.min(40 - price, 6 * ones);
                Due.is("price " + price + " with " + ones, x.buy(0), 40 - came);
                Due.is("lost", x.led(0), 40 - price - came);
                Due.is("coins", x.count(2), came);
            }
        }
    }

    private static void ofLikeWorthTheFirst() {
        Due.says("again and again the greatest coin of the LAND (of like WORTH the first)");
        int[][] heldAndThen = {{0, 0, 3, 0}, {3, 0, 6, 0}, {4, 0, 6, 1}, {4, 4, 6, 5}, {5, 5, 6, 6}, {6, 0, 6, 3}, {6, 4, 6, 6}, {6, 6, 6, 6}};
        for (int[] h : heldAndThen) {
            CoinsOfLast x = Due.withCoins(1, h[0], 40, 1, 1, h[1]);
            x.rule(1, 2);
            x.thing(1037, 1);
            int came = h[2] - h[0] + h[3] - h[1];
            Due.is("with " + h[0] + " and " + h[1], x.buy(0), 40 - came);
            Due.is("of the first", x.of(0, 4), h[2]);
            Due.is("of the other", x.of(2, 4), h[3]);
            Due.is("lost", x.led(0), 3 - came);
        }
    }

    private static void changeOfOtherLands() {
        Due.says("the greatest coin of the LAND");
        CoinsOfLast x = Due.withCoins(40, 1);
        x.sort(203, 0);
        x.sort(1, 0);
        x.rule(1, 2);
        x.rule(2, 2);
        x.rule(0, 2);
        x.thing(1037, 1);
        Due.is("none comes of another land", x.buy(0), 40);
        Due.is("of land 2", x.of(1, 4), 0);
        Due.is("of land 0", x.of(2, 4), 0);
        Due.is("lost", x.led(0), 3);
        CoinsOfLast y = Due.withCoins(40, 1, 3, 0);
        y.rule(0, 2);
        y.rule(2, 2);
        y.thing(1037, 1);
        Due.is("the rules of other lands are not asked", y.buy(0), -2);
    }

    private static void manyIsOneLess() {
        Due.says("BOUGHT: one of a THING (MANY is 1 less)");
        CoinsOfLast x = Due.withCoins(1, 6, 1, 6);
        x.thing(1001, 9);
        x.thing(1001, 1);
        for (int many = 9; many > 0; many--) {
            Due.is("many", x.of(0, 13), many);
            Due.is("buy", x.buy(0), 1);
        }
        Due.is("many", x.of(0, 13), 0);
        Due.is("none any more", x.buy(0), -5);
        Due.is("many stays", x.of(0, 13), 0);
        Due.is("the other's many", x.of(1, 13), 1);
        Due.is("coins", x.count(2), 3);
        Due.is("spent", x.led(1), 9);
        Due.is("the other one", x.buy(1), 1);
        Due.is("none any more", x.buy(1), -5);
    }

    private static void buyStates() {
        Due.says("BOUGHT: what was PAID less what came back. BAD; STATE: MANY is 0; NOT.");
        for (int rule = 0; rule <= 2; rule++) {
            CoinsOfLast x = Due.withCoins(10, 1);
            x.rule(1, rule);
            x.thing(1010, 0);
            x.thing(1010, 1);
            x.thing(1011, 0);
            x.thing(1011, 1);
            Due.is("none of it", x.buy(0), -5);
            Due.is("none of it ahead of not", x.buy(2), -5);
            Due.is("it can't be paid", x.buy(3), -2);
            Due.is("it can", x.buy(1), 10);
            Due.is("none of it now", x.buy(1), -5);
            Due.is("it can't be paid", x.buy(3), -2);
            Due.is("no such thing", x.buy(4), -1);
            Due.is("no such thing", x.buy(-1), -1);
            Due.is("spent", x.led(1), 10);
        }
    }

    // ---- like, standIn

    private static void likeOffByG() {
        Due.says("SIZE and WEIGHT both off by no more than g (0 .. 99).");
        Due.range("g", 0, 99, -1, g -> Due.withCoins(1, 1).like(0, g));
        for (int off : new int[] {1, 2, 50, 98, 99}) {
            CoinsOfLast x = new CoinsOfLast();
            x.sort(1, 0);
            x.sort(2, 100 * off);
            x.sort(103, off);
            x.sort(204, 101 * off);
            for (int g = Math.max(0, off - 1); g <= Math.min(99, off + 1); g++) {
                Due.is("off by " + off + ", g " + g, x.like(0, g), g >= off ? 15 : 1);
                Due.is("the other way", x.like(3, g), g >= off ? 15 : 8);
                Due.is("one of both", x.like(1, g), g >= off ? 15 : 2);
            }
            Due.is("g 0", x.like(2, 0), 4);
        }
        CoinsOfLast y = new CoinsOfLast();
        y.sort(1, 5050);
        y.sort(1, 5353);
        y.sort(1, 5354);
        y.sort(1, 5453);
        y.sort(1, 4747);
        y.sort(1, 4746);
        y.sort(1, 4647);
        y.sort(1, 5050);
        Due.is("g 2", y.like(0, 2), 129);
        Due.is("g 3", y.like(0, 3), 129 + 2 + 16);
        Due.is("g 4", y.like(0, 4), 255);
    }

    private static void likeBits() {
        Due.says("LIKE: SORTS (bits) that a machine takes for a told one");
        CoinsOfLast x = new CoinsOfLast();
        for (int s = 0; s < 8; s++) {
            x.sort(1 + s, 909 * s);
            Due.is("all so far", x.like(s, 99), (2 << s) - 1);
            Due.is("itself", x.like(s, 0), 1 << s);
        }
        for (int s = 0; s < 8; s++) {
            int beside = (s > 0 ? 1 << s - 1 : 0) | 1 << s | (s < 7 ? 2 << s : 0);
            Due.is("g 8", x.like(s, 8), 1 << s);
            Due.is("g 9", x.like(s, 9), beside);
            Due.is("g 10", x.like(s, 10), beside);
        }
    }

    private static void standInButItself() {
        Due.says("STAND IN: of them (but for itself)");
        CoinsOfLast x = new CoinsOfLast();
        x.sort(120, 5050);
        for (int what = 0; what < 2; what++) {
            Due.is("none but itself", x.standIn(0, 99, 0, what), -1);
        }
        x.sort(140, 5353);
        for (int what = 0; what < 2; what++) {
            Due.is("none so near", x.standIn(0, 2, 0, what), -1);
        }
        Due.is("one", x.standIn(0, 3, 0, 0), 1);
        Due.is("dearer by 20", x.standIn(0, 3, 0, 1), -20);
        Due.is("for the other", x.standIn(1, 3, 0, 0), 0);
        Due.is("cheaper by 20", x.standIn(1, 3, 0, 1), 20);
    }

    private static void standInLeast() {
        Due.says("that whose WORTH, by THE RATE of a DAY to the told one's LAND (cut), is least (of like ones the first)");
        CoinsOfLast x = new CoinsOfLast();
        x.sort(120, 0);
        x.sort(111, 0);
        x.sort(110, 0);
        x.sort(110, 0);
        x.sort(210, 0);
        Due.is("the first of 10", x.standIn(0, 0, 0, 0), 2);
        Due.is("10 less", x.standIn(0, 0, 0, 1), 10);
        // 10 of land 2: 10 at 1000 and 1099, 9 at 999, 11 at 1100.
        Due.law(x, 0, "a=2?d;5000");
        int[][] wants = {{1100, 2, 10}, {1099, 2, 10}, {1000, 2, 10}, {999, 4, 11}, {900, 4, 11}, {899, 4, 12}, {100, 4, 19}, {99, 4, 20}, {0, 4, 20}};
        for (int[] w : wants) {
            Due.is("at " + w[0], x.standIn(0, 0, w[0], 0), w[1]);
            Due.is("less at " + w[0], x.standIn(0, 0, w[0], 1), w[2]);
        }
        // The first of all goes, if none behind it is less.
        CoinsOfLast y = new CoinsOfLast();
        y.sort(110, 0);
        y.sort(120, 0);
        y.sort(111, 0);
        y.sort(110, 0);
        y.sort(112, 0);
        Due.is("sort 0", y.standIn(1, 0, 0, 0), 0);
        Due.is("10 less", y.standIn(1, 0, 0, 1), 10);
        Due.is("for sort 0 sort 3", y.standIn(0, 0, 0, 0), 3);
        y.mend(3, 0, 9);
        Due.is("sort 3", y.standIn(1, 0, 0, 0), 3);
        // By the rate to the told one's land, not from it: all of land 1 are 5 times as much there.
        Due.is("of land 1 for 10 of land 2", x.standIn(4, 0, 100, 0), 2);
        Due.is("50 is 40 more", x.standIn(4, 0, 100, 1), -40);
    }

    private static void standInAsked() {
        Due.says("STAND IN: the SORT (what 0), how much less (1). VOID: BAD; NOT is -1 here: none.");
        Due.is("VOID", CoinsOfLast.VOID, -2000000000);
        CoinsOfLast x = new CoinsOfLast();
        x.sort(120, 0);
        x.sort(111, 0);
        Due.range("sort", 0, 1, -2000000000, s -> x.standIn(s, 0, 0, 0));
        Due.range("g", 0, 99, -2000000000, g -> x.standIn(0, g, 0, 0));
        Due.range("day", 0, 9999, -2000000000, day -> x.standIn(0, 0, day, 0));
        Due.range("what", 0, 1, -2000000000, what -> x.standIn(0, 0, 0, what));
        Due.is("void ahead of none", new CoinsOfLast().standIn(0, 0, 0, 0), -2000000000);
        // One that is dearer by 1 answers -1 as none does.
        x.mend(1, 0, 21);
        Due.is("dearer by 1", x.standIn(0, 0, 0, 1), -1);
        Due.is("its number", x.standIn(0, 0, 0, 0), 1);
        x.mend(1, 0, 20);
        Due.is("of like worth", x.standIn(0, 0, 0, 1), 0);
    }
}
