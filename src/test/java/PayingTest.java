/** Promises 13 to 18: paying. */
public final class PayingTest {
    public static void main(String[] args) {
        paid();
        paidLike();
        paidRefused();
        amounts();
        spend();
        spendLike();
        spendAll();
        buyJust();
        buyMore();
        buyWithChange();
        buyRefused();
        like();
        standIn();
        Due.close();
    }

    private static void paid() {
        CoinsOfLast x = Due.withCoins(10, 2, 5, 3, 1, 6, 20, 1);
        x.sort(220, 0);
        x.purse(4, 6);
        Due.is("nothing", x.paid(10000, 0, -1), 0);
        Due.is("fewest", x.paid(10025, 0, -1), 2);
        Due.is("fewest of 20", x.paid(10025, 0, 3), 1);
        Due.is("fewest of 5", x.paid(10025, 0, 1), 1);
        Due.is("fewest of 10", x.paid(10025, 0, 0), 0);
        // 5 + 5 + 5 + 1 * 5 = 20 with 8 coins; 25 = 10 + 5 + 5 + 1 * 5 with 8.
        Due.is("most", x.paid(10025, 1, -1), 8);
        Due.is("most of 1", x.paid(10025, 1, 2), 5);
        Due.is("most of 5", x.paid(10025, 1, 1), 2);
        Due.is("most of 10", x.paid(10025, 1, 0), 1);
        Due.is("a sort of another land", x.paid(10025, 1, 4), 0);
        Due.is("all of it", x.paid(10061, 0, -1), 12);
        Due.is("more than all", x.paid(10062, 0, -1), -2);
        Due.is("the other land", x.paid(20120, 0, -1), 6);
        Due.is("the other land can't", x.paid(20110, 0, -1), -2);
        Due.is("a land of none", x.paid(1, 1, -1), -2);
        Due.is("nothing is taken", x.of(1, 21), 61);
    }

    private static void paidLike() {
        // 40 = 20 + 20 = 30 + 10: two coins each way; the first sort decides.
        CoinsOfLast x = Due.withCoins(20, 2, 30, 1, 10, 1);
        Due.is("fewest", x.paid(10040, 0, -1), 2);
        Due.is("with most of the first", x.paid(10040, 0, 0), 2);
        Due.is("and none of the next", x.paid(10040, 0, 1), 0);
        CoinsOfLast y = Due.withCoins(30, 1, 20, 2, 10, 1);
        Due.is("with most of the first", y.paid(10040, 0, 0), 1);
        Due.is("none of the next", y.paid(10040, 0, 1), 0);
        Due.is("the last one", y.paid(10040, 0, 2), 1);
        CoinsOfLast z = Due.withCoins(5, 2, 5, 6, 5, 6);
        Due.is("of one worth the first", z.paid(10020, 1, 0), 2);
        Due.is("then the next", z.paid(10020, 1, 1), 2);
        Due.is("then none", z.paid(10020, 1, 2), 0);
        CoinsOfLast w = Due.withCoins(1, 6, 2, 6, 3, 6);
        // 9 with the most coins: 1 * 6 and 3, or 1 * 5 and 2 * 2: both 7.
        Due.is("most", w.paid(10009, 1, -1), 7);
        Due.is("with most of the first", w.paid(10009, 1, 0), 6);
        Due.is("none of the second", w.paid(10009, 1, 1), 0);
        Due.is("one of the third", w.paid(10009, 1, 2), 1);
    }

    private static void paidRefused() {
        CoinsOfLast x = Due.withCoins(10, 1);
        int[][] bad = {{-1, 0, -1}, {40000, 0, -1}, {Integer.MAX_VALUE, 0, -1}, {Integer.MIN_VALUE, 0, -1},
            {10010, 2, -1}, {10010, -1, -1}, {10010, 0, -2}, {10010, 0, 1}, {10010, 0, Integer.MAX_VALUE}, {10011, 2, 0}};
        for (int[] b : bad) {
            Due.is("paid(" + b[0] + ", " + b[1] + ", " + b[2] + ")", x.paid(b[0], b[1], b[2]), -1);
        }
        Due.is("the greatest amount", x.paid(39999, 0, -1), -2);
        Due.is("an amount above all coins there may be", x.paid(11921, 0, -1), -2);
        CoinsOfLast y = Due.withCoins(40, 6, 40, 6, 40, 6, 40, 6, 40, 6, 40, 6, 40, 6, 40, 6);
        Due.is("all coins there may be", y.paid(11920, 0, -1), 48);
        Due.is("all amounts there may be", y.amounts(1, 0), 48);
        Due.is("one more", y.paid(11921, 1, -1), -2);
    }

    private static void amounts() {
        CoinsOfLast x = Due.withCoins(1, 3, 5, 2);
        // 1..3, 5..8, 10..13
        Due.is("amounts", x.amounts(1, 0), 11);
        Due.is("least that can't", x.amounts(1, 1), 4);
        Due.is("of another land", x.amounts(2, 0), 0);
        Due.is("of another land", x.amounts(2, 1), 1);
        Due.is("land 4", x.amounts(4, 0), -1);
        Due.is("land -1", x.amounts(-1, 0), -1);
        Due.is("what 2", x.amounts(1, 2), -1);
        Due.is("what -1", x.amounts(1, -1), -1);
        CoinsOfLast y = Due.withCoins(1, 6, 7, 6, 40, 6, 40, 6, 40, 6, 40, 6, 40, 6, 40, 6);
        Due.is("without a gap", y.amounts(1, 0), 48 + 36 * 40);
        Due.is("the first behind all", y.amounts(1, 1), 49 + 36 * 40);
        CoinsOfLast z = Due.withCoins(6, 2, 4, 1);
        // 4, 6, 10, 12, 16
        Due.is("amounts", z.amounts(1, 0), 5);
        Due.is("least that can't", z.amounts(1, 1), 1);
    }

    private static void due(CoinsOfLast x, int land, int which, int left, int value, int prices) {
        Due.is("left", x.spend(land, which, 0), left);
        Due.is("value", x.spend(land, which, 1), value);
        Due.is("prices", x.spend(land, which, 2), prices);
    }

    private static void spend() {
        CoinsOfLast x = Due.withCoins(10, 3, 3, 1);
        x.sort(250 - 10, 0);
        x.purse(2, 1);
        due(x, 1, 0, 33, 0, 0);
        x.thing(1020, 501);
        x.thing(1013, 901);
        x.thing(2001, 999);
        // 20 (value 50), 13 (value 90), both 33 (140).
        due(x, 1, 0, 0, 140, 33);
        due(x, 1, 1, 0, 140, 33);
        x.mend(1, 3, 12);
        // 12 can't be paid, 32 can't either: only 20.
        due(x, 1, 0, 13, 50, 20);
        due(x, 1, 1, 13, 50, 20);
        due(x, 2, 0, 40, 0, 0);
        x.thing(1010, 513);
        // 10, 20 (two of 51: 102; 50), 30 (153; 101; 20 + 10).
        due(x, 1, 0, 3, 153, 30);
        due(x, 1, 1, 3, 153, 30);
        due(x, 3, 0, 0, 0, 0);
        Due.is("land 4", x.spend(4, 0, 0), -1);
        Due.is("land -1", x.spend(-1, 0, 0), -1);
        Due.is("which 2", x.spend(1, 2, 0), -1);
        Due.is("which -1", x.spend(1, -1, 0), -1);
        Due.is("what 3", x.spend(1, 0, 3), -1);
        Due.is("what -1", x.spend(1, 0, -1), -1);
    }

    private static void spendLike() {
        CoinsOfLast x = Due.withCoins(1, 6);
        x.thing(1006, 101);
        x.thing(1002, 51);
        x.thing(1003, 101);
        // Least left: 6 of value 10. Most: 2 + 3 of value 15.
        due(x, 1, 0, 0, 10, 6);
        due(x, 1, 1, 1, 15, 5);
        x.thing(1004, 151);
        // 2 + 4 leaves nothing as well and is worth 20; 3 alone 10; most 20 with 6.
        due(x, 1, 0, 0, 20, 6);
        due(x, 1, 1, 0, 20, 6);
        x.mend(2, 4, 15);
        // 3 and 2: 20 with prices 5, of like value the least prices.
        due(x, 1, 1, 1, 20, 5);
        CoinsOfLast y = Due.withCoins(1, 6);
        y.thing(1002, 2);
        // Of no value: nothing is bought for the most, all that goes for the least left.
        due(y, 1, 0, 2, 0, 4);
        due(y, 1, 1, 6, 0, 0);
        y.thing(1001, 0);
        due(y, 1, 0, 2, 0, 4);
        CoinsOfLast z = Due.withCoins(1, 1);
        z.thing(1001, 1);
        due(z, 1, 0, 0, 0, 1);
        due(z, 1, 1, 1, 0, 0);
        z.mend(0, 4, 1);
        due(z, 1, 1, 0, 1, 1);
    }

    private static void spendAll() {
        CoinsOfLast x = Due.withCoins(40, 6, 40, 6, 40, 6, 40, 6, 40, 6, 40, 6, 40, 6, 40, 6);
        x.thing(1160, 999);
        x.thing(1160, 983);
        due(x, 1, 0, 0, 9 * 99 + 3 * 98, 1920);
        due(x, 1, 1, 0, 9 * 99 + 3 * 98, 1920);
        x.thing(1200, 999);
        // 9 of 160 and 2 of 200: 1840; 12 of 160: 1920; 7 of 200 and 3 of 160: 1880.
        due(x, 1, 0, 0, 9 * 99 + 3 * 98, 1920);
        x.thing(1120, 999);
        // The most: 9 of 120, 5 of 160: 1880 with 14 things of 99 each.
        due(x, 1, 1, 40, 14 * 99, 1880);
        due(x, 1, 0, 0, 14 * 99, 1920);
    }

    private static void buyJust() {
        CoinsOfLast x = Due.withCoins(10, 2, 5, 2, 1, 6);
        x.thing(1015, 12);
        Due.is("buy", x.buy(0), 15);
        // With the most coins: 10 * 0 + 5 * 2 + 1 * 5 = 7 coins.
        Due.is("of 10", x.of(0, 4), 2);
        Due.is("of 5", x.of(1, 4), 0);
        Due.is("of 1", x.of(2, 4), 1);
        Due.is("many", x.of(0, 13), 1);
        Due.is("spent", x.led(1), 15);
        Due.is("lost", x.led(0), 0);
        Due.is("can't be paid just", x.buy(0), -2);
        Due.is("many stays", x.of(0, 13), 1);
        Due.is("coins stay", x.count(2), 3);
        x.purse(1, 1);
        Due.is("buy", x.buy(0), 15);
        Due.is("none any more", x.buy(0), -5);
        Due.is("spent", x.led(1), 30);
    }

    private static void buyMore() {
        CoinsOfLast x = Due.withCoins(10, 2, 7, 2);
        x.thing(1013, 19);
        x.thing(2001, 19);
        x.rule(1, 1);
        // 14 is the least amount not below 13.
        Due.is("buy", x.buy(0), 14);
        Due.is("lost", x.led(0), 1);
        Due.is("of 7", x.of(1, 4), 0);
        Due.is("of 10", x.of(0, 4), 2);
        Due.is("buy", x.buy(0), 20);
        Due.is("lost", x.led(0), 8);
        Due.is("spent", x.led(1), 34);
        Due.is("no more", x.buy(0), -2);
        Due.is("the other land's rule", x.buy(1), -2);
        x.purse(0, 1);
        Due.is("less than the price", x.buy(0), -2);
        x.mend(0, 3, 10);
        Due.is("just", x.buy(0), 10);
        Due.is("lost", x.led(0), 8);
        Due.is("many", x.of(0, 13), 6);
    }

    private static void buyWithChange() {
        CoinsOfLast x = Due.withCoins(40, 1, 5, 5, 1, 6, 5, 6, 20, 0, 3, 0);
        x.rule(1, 2);
        x.purse(1, 0);
        x.purse(2, 0);
        x.purse(3, 0);
        x.thing(1002, 9);
        // 40 for 2: back 20, then 5 (the first of like worth) three times, then 3: 38 in all.
        Due.is("buy", x.buy(0), 2);
        Due.is("of 20", x.of(4, 4), 1);
        Due.is("of the first 5", x.of(1, 4), 3);
        Due.is("of the other 5", x.of(3, 4), 0);
        Due.is("of 3", x.of(5, 4), 1);
        Due.is("of 1", x.of(2, 4), 0);
        Due.is("of 40", x.of(0, 4), 0);
        Due.is("lost", x.led(0), 0);
        Due.is("spent", x.led(1), 2);
        // No more than 6 of a sort: then the next one comes, and what can't come is lost.
        CoinsOfLast y = Due.withCoins(40, 1, 9, 5, 9, 4, 2, 5);
        y.rule(1, 2);
        y.mend(0, 0, 40);
        y.purse(1, 5);
        y.thing(1001, 9);
        y.purse(3, 0);
        y.purse(0, 0);
        // 9 for 1: 8 to come: 2, four times.
        Due.is("buy", y.buy(0), 1);
        Due.is("of the first 9", y.of(1, 4), 4);
        Due.is("of 2", y.of(3, 4), 4);
        // 2 for 1: nothing comes back of 1.
        Due.is("buy", y.buy(0), 2);
        Due.is("lost", y.led(0), 1);
        Due.is("spent", y.led(1), 3);
        CoinsOfLast z = Due.withCoins(40, 6, 9, 5, 9, 4, 2, 5);
        z.rule(1, 2);
        z.thing(1190, 9);
        z.purse(1, 0);
        z.purse(2, 0);
        z.purse(3, 0);
        z.sort(140, 0);
        // 200 for 190: 9 comes, 1 is lost.
        Due.is("buy", z.buy(0), 191);
        Due.is("of the first 9", z.of(1, 4), 1);
        Due.is("lost", z.led(0), 1);
        CoinsOfLast f = Due.withCoins(40, 3, 9, 6, 9, 5, 2, 6, 1, 5);
        f.rule(1, 2);
        f.thing(2001, 9);
        f.thing(1100, 9);
        f.purse(1, 0);
        f.purse(2, 0);
        f.purse(3, 0);
        f.purse(4, 0);
        // 120 for 100: 9, 9, 2.
        Due.is("buy", f.buy(1), 100);
        Due.is("of the first 9", f.of(1, 4), 2);
        Due.is("of the second 9", f.of(2, 4), 0);
        Due.is("of 2", f.of(3, 4), 1);
        CoinsOfLast g = Due.withCoins(40, 6, 6, 0, 6, 0, 2, 6, 1, 0);
        g.rule(1, 2);
        g.thing(1001, 9);
        g.purse(3, 0);
        // 40 for 1: 39 to come: 6 six times of the first, then 3: 2 and 1.
        Due.is("buy", g.buy(0), 1);
        Due.is("of the first 6", g.of(1, 4), 6);
        Due.is("of the second 6", g.of(2, 4), 0);
        Due.is("of 2", g.of(3, 4), 1);
        Due.is("of 1", g.of(4, 4), 1);
        g.purse(0, 1);
        g.purse(1, 0);
        g.purse(3, 0);
        g.purse(4, 0);
        g.mend(1, 0, 3);
        g.mend(2, 0, 3);
        // 39 to come: 3 six times of each, then 2 and 1.
        Due.is("buy", g.buy(0), 1);
        Due.is("of the first 3", g.of(1, 4), 6);
        Due.is("of the second 3", g.of(2, 4), 6);
        Due.is("of 2", g.of(3, 4), 1);
        Due.is("of 1", g.of(4, 4), 1);
        Due.is("lost", g.led(0), 0);
    }

    private static void buyRefused() {
        CoinsOfLast x = Due.withCoins(10, 1);
        Due.is("no thing", x.buy(0), -1);
        Due.is("thing -1", x.buy(-1), -1);
        x.thing(1020, 0);
        Due.is("none of it, and it can't be paid", x.buy(0), -5);
        Due.is("thing 1", x.buy(1), -1);
        x.thing(1020, 1);
        for (int rule = 0; rule < 3; rule++) {
            x.rule(1, rule);
            Due.is("too little", x.buy(1), -2);
        }
        Due.is("coins stay", x.count(2), 1);
        Due.is("spent", x.led(1), 0);
    }

    private static void like() {
        CoinsOfLast x = new CoinsOfLast();
        x.sort(101, 5050);
        x.sort(202, 5250);
        x.sort(303, 5052);
        x.sort(4, 5353);
        x.sort(105, 4747);
        Due.is("g 0", x.like(0, 0), 1);
        Due.is("g 1", x.like(0, 1), 1);
        Due.is("g 2", x.like(0, 2), 7);
        Due.is("g 3", x.like(0, 3), 31);
        Due.is("of 1", x.like(1, 2), 7);
        Due.is("of 3", x.like(3, 5), 15);
        Due.is("of 3", x.like(3, 6), 31);
        Due.is("of 3", x.like(3, 99), 31);
        Due.is("g 100", x.like(0, 100), -1);
        Due.is("g -1", x.like(0, -1), -1);
        Due.is("sort 5", x.like(5, 0), -1);
        Due.is("sort -1", x.like(-1, 0), -1);
    }

    private static void standIn() {
        CoinsOfLast x = new CoinsOfLast();
        x.sort(120, 5050);
        Due.is("none but itself", x.standIn(0, 99, 0, 0), -1);
        Due.is("none but itself", x.standIn(0, 99, 0, 1), -1);
        x.sort(230, 5252);
        x.sort(310, 5454);
        x.sort(110, 5454);
        Due.is("none so near", x.standIn(0, 1, 0, 0), -1);
        Due.is("one", x.standIn(0, 2, 0, 0), 1);
        Due.is("dearer by ten", x.standIn(0, 2, 0, 1), -10);
        Due.is("of like ones the first", x.standIn(0, 4, 0, 0), 2);
        Due.is("less by ten", x.standIn(0, 4, 0, 1), 10);
        // To land 1: from 2 at 100 thousandths, from 3 at 900 on days below 5, at 2000 then.
        Due.is("law", Due.law(x, 0, "!(b=1)?5000;a=2?100;d<5?900;2000"), 1);
        Due.is("3 of the cheapest", x.standIn(0, 4, 0, 0), 1);
        Due.is("30 at 100 is 3", x.standIn(0, 4, 0, 1), 17);
        x.mend(1, 0, 40);
        x.mend(1, 1, 60);
        Due.is("10 at 900 is 9", x.standIn(0, 4, 4, 0), 2);
        Due.is("less by 11", x.standIn(0, 4, 4, 1), 11);
        Due.is("10 of the own land", x.standIn(0, 4, 5, 0), 3);
        Due.is("less by ten", x.standIn(0, 4, 5, 1), 10);
        x.mend(2, 0, 1);
        Due.is("1 at 900 is cut to 0", x.standIn(0, 4, 4, 1), 20);
        int[][] bad = {{-1, 0, 0, 0}, {4, 0, 0, 0}, {0, -1, 0, 0}, {0, 100, 0, 0}, {0, 0, -1, 0}, {0, 0, 10000, 0},
            {0, 0, 0, -1}, {0, 0, 0, 2}};
        for (int[] b : bad) {
            Due.is("standIn bad", x.standIn(b[0], b[1], b[2], b[3]), -2000000000);
        }
        Due.is("the last day", x.standIn(0, 99, 9999, 0), 2);
    }
}
