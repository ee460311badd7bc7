/** The boundary cases of promises 19 to 31, and of what section 3 of the terms says. */
public final class EdgesChangingTest {
    public static void main(String[] args) {
        changeCut();
        changeShare();
        changeFee();
        changeAsked();
        changeFromTo();
        changeOfTheGreatest();
        wayEachLandOnce();
        wayDays();
        wayMostAndFirst();
        wayAsked();
        roundByOneTwoThree();
        roundMostAndFirst();
        roundAsked();
        waitsDays();
        waitsTheFirst();
        waitsAsked();
        swapOneToThree();
        swapOfThePurse();
        swapNoMoreThanSix();
        swapWorthNoLess();
        swapPrices();
        swapFewestTogether();
        swapLeastSorts();
        swapAsked();
        keptYears();
        keptBestYear();
        keptAllLands();
        heapAsked();
        heapWays();
        give();
        led();
        image();
        imageOfWhatCame();
        sameNumberIsNone();
        latestFirst();
        noOtherBehind();
        fortyAtMost();
        theFirstIsForgotten();
        fortyAndUndone();
        Due.close();
    }

    // ---- change

    private static CoinsOfLast byLaw(String text) {
        CoinsOfLast x = new CoinsOfLast();
        Due.is("law of " + text, Due.law(x, 0, text), 1);
        return x;
    }

    private static void changeCut() {
        Due.says("CHANGED: an amount x of LAND a becomes x times THE RATE by 1000 (cut)");
        CoinsOfLast x = byLaw("d");
        int[][] wants = {{0, 9999, 0}, {1, 1, 0}, {1, 999, 0}, {1, 1000, 1}, {1, 1001, 1}, {1, 1999, 1}, {1, 2000, 2}, {2, 499, 0}, {2, 500, 1},
            {2, 999, 1}, {2, 1001, 2}, {999, 1001, 999}, {1000, 1001, 1001}, {1000, 999, 999}, {999, 1, 0}, {1000, 1, 1}, {1001, 1, 1},
            {1000, 0, 1}, {9999, 9999, 99980}, {9999, 1, 9}, {3, 333, 0}, {3, 334, 1}};
        for (int[] w : wants) {
            Due.is(w[0] + " at " + w[1], x.change(w[0], 12, w[1]), w[2]);
        }
        Due.is("without a text", new CoinsOfLast().change(9999, 12, 0), 9999);
    }

    private static void changeShare() {
        Due.says("less SHARE of that (by 100, rounded up)");
        int[][] wants = {{1, 0, 0}, {1, 1, 0}, {1, 2, 1}, {1, 99, 98}, {1, 100, 99}, {1, 101, 99}, {1, 199, 197}, {1, 200, 198}, {1, 201, 198},
            {0, 0, 0}, {0, 1, 1}, {0, 9999, 9999}, {50, 1, 0}, {50, 2, 1}, {50, 3, 1}, {99, 1, 0}, {99, 99, 0}, {99, 100, 1}, {99, 101, 1},
            {99, 199, 1}, {99, 200, 2}, {99, 9999, 99}, {98, 49, 0}, {98, 50, 1}, {98, 51, 1}};
        for (int[] w : wants) {
            CoinsOfLast x = new CoinsOfLast();
            x.window(0, w[0]);
            Due.is(w[1] + " less " + w[0] + " hundredths", x.change(w[1], 12, 0), w[2]);
        }
        // Of what it becomes, not of what it was: 2 at 500 is 1, half of it 0.5.
        CoinsOfLast y = byLaw("500");
        y.window(0, 50);
        Due.is("2", y.change(2, 12, 0), 0);
        Due.is("4", y.change(4, 12, 0), 1);
        Due.is("5", y.change(5, 12, 0), 1);
        Due.is("6", y.change(6, 12, 0), 1);
        Due.is("8", y.change(8, 12, 0), 2);
    }

    private static void changeFee() {
        Due.says("less FEE; 0 at least.");
        for (int fee : new int[] {0, 1, 2, 98, 99}) {
            CoinsOfLast x = new CoinsOfLast();
            x.window(1, fee);
            for (int v = Math.max(0, fee - 1); v <= fee + 2; v++) {
                Due.is(v + " less " + fee, x.change(v, 12, 0), Math.max(0, v - fee));
            }
            Due.is("0", x.change(0, 12, 0), 0);
        }
        // SHARE goes ahead of FEE: half of 100, then 10.
        CoinsOfLast y = new CoinsOfLast();
        y.window(0, 50);
        y.window(1, 10);
        Due.is("100", y.change(100, 12, 0), 40);
        Due.is("20", y.change(20, 12, 0), 0);
        Due.is("21", y.change(21, 12, 0), 0);
        Due.is("22", y.change(22, 12, 0), 1);
        Due.is("0", y.change(0, 12, 0), 0);
    }

    private static void changeAsked() {
        Due.says("CHANGED (ab, as of rate(); x 0 .. 9999). BAD (a is b).");
        CoinsOfLast x = new CoinsOfLast();
        Due.range("x", 0, 9999, -1, v -> x.change(v, 12, 0));
        Due.range("day", 0, 9999, -1, day -> x.change(5, 12, day));
        for (int a = 0; a <= 4; a++) {
            for (int b = 0; b <= 9; b++) {
                boolean good = a < 4 && b < 4 && a != b;
                int ab = 10 * a + b;
                Due.is("change by " + ab, x.change(5, ab, 0), good ? 5 : -1);
                Due.is("way by " + ab, x.way(5, ab, 0, 0), good ? 5 : -1);
                Due.is("waits by " + ab, x.waits(5, ab, 0, 1), good ? 5 : -1);
            }
        }
        for (int ab : new int[] {-1, -10, -12, Integer.MIN_VALUE, Integer.MAX_VALUE}) {
            Due.is("change by " + ab, x.change(5, ab, 0), -1);
            Due.is("way by " + ab, x.way(5, ab, 0, 0), -1);
            Due.is("waits by " + ab, x.waits(5, ab, 0, 1), -1);
        }
    }

    private static void changeFromTo() {
        Due.says("an amount x of LAND a becomes x times THE RATE by 1000 (cut)");
        CoinsOfLast x = byLaw("a*1000+b*100+d");
        CoinsOfLast y = byLaw("1");
        for (int a = 0; a < 4; a++) {
            for (int b = 0; b < 4; b++) {
                int ab = 10 * a + b;
                int rate = 1000 * a + 100 * b + 7;
                Due.is("rate by " + ab, x.rate(ab, 7), a == b ? 1000 : rate);
                Due.is("change by " + ab, x.change(1000, ab, 7), a == b ? -1 : rate);
                Due.is("waits by " + ab, x.waits(1000, ab, 700, 1), a == b ? -1 : rate);
                Due.is("waits by " + ab, x.waits(1000, ab, 703, 1), a == b ? -1 : rate + 3);
                // The straight way is the best when each change but it takes all.
                Due.is("law", Due.law(y, 0, "a=" + a + "&b=" + b + "&d=7?3000;1"), 1);
                Due.is("way by " + ab, y.way(100, ab, 7, 0), a == b ? -1 : 300);
                Due.is("its lands", y.way(100, ab, 7, 1), a == b ? -1 : ab + 11);
            }
        }
    }

    private static void changeOfTheGreatest() {
        Due.says("what x becomes at most");
        CoinsOfLast x = byLaw("9999");
        Due.is("one change", x.change(9999, 12, 0), 99980);
        Due.is("three changes", x.way(9999, 12, 0, 0), 9996000);
        Due.is("four changes", x.round(9999, 1, 0, 0), 99950004);
        x.window(0, 99);
        // 99980 less 98981 is 999; 9989 less 9890 is 99.
        Due.is("one change", x.change(9999, 12, 0), 999);
        Due.is("one change of 999", x.change(999, 12, 0), 99);
    }

    // ---- way, round

    private static void wayEachLandOnce() {
        Due.says("WAY: from LAND a to another one b by changes, each LAND once at most");
        // Doubles from 1 to 2 and from 2 to 1 alone: to go there again would bring more.
        CoinsOfLast x = byLaw("(a=1&b=2)|(a=2&b=1)?2000;1000");
        Due.is("from 1 to 3", x.way(100, 13, 0, 0), 200);
        Due.is("its lands", x.way(100, 13, 0, 1), 2314);
        Due.is("from 0 to 3", x.way(100, 3, 0, 0), 200);
        Due.is("its lands", x.way(100, 3, 0, 1), 1234);
        Due.is("from 0 to 2", x.way(100, 2, 0, 0), 200);
        Due.is("its lands", x.way(100, 2, 0, 1), 123);
        // All that goes on from b to other ones would bring more: a way ends there.
        CoinsOfLast y = byLaw("a=3?9999;1000");
        Due.is("from 0 to 3", y.way(100, 3, 0, 0), 100);
        CoinsOfLast z = byLaw("b=0?9999;1000");
        Due.is("a is not come to again", z.way(100, 3, 0, 0), 100);
    }

    private static void wayDays() {
        Due.says("the first change on a DAY, each next one a DAY later");
        // Over all lands it takes three days, of which 2, 3 and 4 double.
        int[] wants = {1, 4, 8000, 4, 2, 1};
        for (int day = 0; day < wants.length; day++) {
            CoinsOfLast x = byLaw("b-a=1&d>1&d<5?2000;1");
            Due.is("on day " + day, x.way(1000, 3, day, 0), wants[day]);
        }
        CoinsOfLast y = byLaw("d=7?3000;d=8?2000;d=9?1000;1");
        Due.is("from day 7", y.way(10, 3, 7, 0), 60);
        Due.is("its lands", y.way(10, 3, 7, 1), 1234);
        Due.is("from day 8", y.way(10, 3, 8, 0), 20);
        Due.is("its lands", y.way(10, 3, 8, 1), 124);
        Due.is("from day 6", y.way(1000, 3, 6, 0), 6);
        Due.is("its lands", y.way(1000, 3, 6, 1), 1234);
        Due.is("from day 9", y.way(10, 3, 9, 0), 10);
        Due.is("its lands", y.way(10, 3, 9, 1), 14);
        CoinsOfLast z = byLaw("d-9000");
        Due.is("behind day 9999", z.way(1000, 3, 9999, 0), 999);
        CoinsOfLast w = byLaw("d>9999+1?9999;2000");
        Due.is("the third change is on day 10001", w.way(100, 3, 9999, 0), 3999);
        Due.is("the third change is on day 10000", w.way(100, 3, 9998, 0), 800);
    }

    private static void wayMostAndFirst() {
        Due.says("what x becomes at most; the first such way by rows of LANDS, as digits (numbers and 1) from a to b.");
        int[][] firsts = {{1, 12}, {2, 123}, {3, 1234}, {10, 21}, {12, 213}, {13, 2134}, {20, 31}, {21, 312}, {23, 3124},
            {30, 41}, {31, 412}, {32, 4123}};
        for (int[] f : firsts) {
            CoinsOfLast x = new CoinsOfLast();
            for (int v : new int[] {0, 1, 9999}) {
                Due.is("all alike", x.way(v, f[0], 0, 1), f[1]);
                Due.is("all alike", x.way(v, f[0], 0, 0), v);
            }
            // A fee makes the straight one the best, until all come to nothing.
            x.window(1, 10);
            Due.is("31", x.way(31, f[0], 0, 0), 21);
            Due.is("the straight one", x.way(31, f[0], 0, 1), 11 + f[0]);
            Due.is("11", x.way(11, f[0], 0, 0), 1);
            Due.is("the straight one", x.way(11, f[0], 0, 1), 11 + f[0]);
            Due.is("10", x.way(10, f[0], 0, 0), 0);
            Due.is("the first one", x.way(10, f[0], 0, 1), f[1]);
            Due.is("0", x.way(0, f[0], 0, 1), f[1]);
        }
        // By 1 more than the straight one, alike, by 1 less.
        int[][] rates = {{1001, 1001, 124}, {1000, 1000, 1234}, {999, 1000, 1234}};
        for (int[] r : rates) {
            CoinsOfLast y = byLaw("a=0&b=1?" + r[0] + ";1000");
            Due.is("by " + r[0], y.way(1000, 3, 0, 0), r[1]);
        }
    }

    private static void wayAsked() {
        Due.says("WAY: how much (what 0), the digits (1). BAD (a is b).");
        CoinsOfLast x = new CoinsOfLast();
        Due.range("x", 0, 9999, -1, v -> x.way(v, 12, 0, 0));
        Due.range("day", 0, 9999, -1, day -> x.way(5, 12, day, 0));
        Due.range("what", 0, 1, -1, what -> x.way(5, 12, 0, what));
        for (int a = 0; a < 4; a++) {
            Due.is("a is b", x.way(5, 11 * a, 0, 0), -1);
            Due.is("a is b", x.way(5, 11 * a, 0, 1), -1);
        }
    }

    private static void roundByOneTwoThree() {
        Due.says("ROUND: back to a by one, two or three others (each once): likewise.");
        CoinsOfLast one = byLaw("d<2?2000;1");
        Due.is("by one", one.round(100, 1, 0, 0), 400);
        Due.is("its lands", one.round(100, 1, 0, 1), 212);
        CoinsOfLast two = byLaw("a=0&b=1|a=1&b=2|a=2&b=0?2000;900");
        Due.is("by two", two.round(100, 0, 0, 0), 800);
        Due.is("its lands", two.round(100, 0, 0, 1), 1231);
        CoinsOfLast three = byLaw("2000");
        Due.is("by three", three.round(100, 2, 0, 0), 1600);
        Due.is("its lands", three.round(100, 2, 0, 1), 31243);
        // Not by none, and not by more: with a fee of 1 it goes down from 100.
        CoinsOfLast x = new CoinsOfLast();
        x.window(1, 1);
        Due.is("two changes at least", x.round(100, 2, 0, 0), 98);
        Due.is("its lands", x.round(100, 2, 0, 1), 313);
        Due.is("2", x.round(2, 2, 0, 0), 0);
        Due.is("3", x.round(3, 2, 0, 0), 1);
        Due.is("its lands", x.round(3, 2, 0, 1), 313);
        // To and fro between 0 and 1 alone.
        CoinsOfLast y = byLaw("a<2&b<2?3000;900");
        Due.is("each once", y.round(100, 0, 0, 0), 900);
        Due.is("its lands", y.round(100, 0, 0, 1), 121);
    }

    private static void roundMostAndFirst() {
        Due.says("ROUND: back to a by one, two or three others (each once): likewise.");
        int[] firsts = {121, 212, 3123, 41234};
        for (int a = 0; a < 4; a++) {
            CoinsOfLast x = new CoinsOfLast();
            for (int v : new int[] {0, 1, 9999}) {
                Due.is("all alike", x.round(v, a, 0, 0), v);
            }
            x.window(1, 99);
            Due.is("all come to nothing", x.round(198, a, 0, 0), 0);
            Due.is("the first", x.round(198, a, 0, 1), firsts[a]);
            Due.is("one comes to 1", x.round(199, a, 0, 0), 1);
            Due.is("the first by one other", x.round(199, a, 0, 1), 100 * (a + 1) + 10 * (a == 0 ? 2 : 1) + a + 1);
        }
        CoinsOfLast y = new CoinsOfLast();
        Due.is("from 0", y.round(7, 0, 0, 1), 121);
        Due.is("from 1", y.round(7, 1, 0, 1), 212);
        Due.is("from 2", y.round(7, 2, 0, 1), 3123);
        Due.is("from 3", y.round(7, 3, 0, 1), 41234);
        CoinsOfLast z = byLaw("d>9999+2?9999;2000");
        Due.is("the fourth change is on day 10002", z.round(100, 0, 9999, 0), 7999);
        Due.is("the fourth change is on day 10001", z.round(100, 0, 9998, 0), 1600);
    }

    private static void roundAsked() {
        Due.says("ROUND: how much (what 0), the digits (1). BAD.");
        CoinsOfLast x = new CoinsOfLast();
        Due.range("x", 0, 9999, -1, v -> x.round(v, 1, 0, 0));
        Due.range("a", 0, 3, -1, a -> x.round(5, a, 0, 1));
        Due.range("day", 0, 9999, -1, day -> x.round(5, 1, day, 0));
        Due.range("what", 0, 1, -1, what -> x.round(5, 1, 0, what));
    }

    // ---- waits

    private static void waitsDays() {
        Due.says("WAIT: of DAYS d to d and n (0 .. 60) that on which x becomes most by one change");
        for (int best : new int[] {10, 11, 40, 69, 70}) {
            CoinsOfLast x = byLaw("d=" + best + "?2000;1000");
            for (int n : new int[] {0, 1, 29, 30, 31, 58, 59, 60}) {
                boolean comes = best <= 10 + n;
                Due.is("day of " + n, x.waits(100, 12, 1000 + n, 0), comes ? best : 10);
                Due.is("how much of " + n, x.waits(100, 12, 1000 + n, 1), comes ? 200 : 100);
            }
        }
        CoinsOfLast y = byLaw("d=9?3000;d=71?3000;1000");
        Due.is("neither the day ahead nor the one behind", y.waits(100, 12, 1060, 0), 10);
        Due.is("how much", y.waits(100, 12, 1060, 1), 100);
        CoinsOfLast z = byLaw("d-9000");
        Due.is("days go on behind 9999", z.waits(1000, 12, 999960, 0), 10059);
        Due.is("how much", z.waits(1000, 12, 999960, 1), 1059);
        Due.is("day 9999 alone", z.waits(1000, 12, 999900, 1), 999);
        Due.is("and the next one", z.waits(1000, 12, 999901, 0), 10000);
    }

    private static void waitsTheFirst() {
        Due.says("that on which x becomes most by one change (the first); how much.");
        CoinsOfLast x = byLaw("d%5=3?1001;1000");
        Due.is("the first of them", x.waits(1000, 12, 60, 0), 3);
        Due.is("how much", x.waits(1000, 12, 60, 1), 1001);
        Due.is("from itself on", x.waits(1000, 12, 360, 0), 3);
        Due.is("from the next on", x.waits(1000, 12, 460, 0), 8);
        Due.is("just not yet", x.waits(1000, 12, 403, 0), 4);
        Due.is("just so", x.waits(1000, 12, 404, 0), 8);
        Due.is("cut, all are alike", x.waits(999, 12, 60, 0), 0);
        Due.is("how much", x.waits(999, 12, 60, 1), 999);
        Due.is("0 on the first", x.waits(0, 12, 560, 0), 5);
        Due.is("0", x.waits(0, 12, 560, 1), 0);
    }

    private static void waitsAsked() {
        Due.says("WAIT: the DAY (what 0), how much (1). dn: 100 d and n. BAD (a is b).");
        CoinsOfLast x = new CoinsOfLast();
        Due.range("x", 0, 9999, -1, v -> x.waits(v, 12, 0, 0));
        Due.range("dn", 0, 999960, -1, dn -> x.waits(5, 12, dn, 0));
        Due.ends("d", 0, 9999, -1, d -> x.waits(5, 12, 100 * d + 60, 0));
        Due.ends("n", 0, 60, -1, n -> x.waits(5, 12, 500 + n + (n < 0 ? -500 : 0), 0));
        Due.range("what", 0, 1, -1, what -> x.waits(5, 12, 0, what));
        for (int dn : new int[] {61, 62, 99, 161, 199, 999961, 999999, 1000000, -1, -60, -100}) {
            Due.is("waits of " + dn, x.waits(5, 12, dn, 0), -1);
            Due.is("waits of " + dn, x.waits(5, 12, dn, 1), -1);
        }
        Due.is("d 1, n 0", x.waits(5, 12, 100, 0), 1);
        Due.is("d 0, n 60", x.waits(5, 12, 60, 0), 0);
        for (int a = 0; a < 4; a++) {
            Due.is("a is b", x.waits(5, 11 * a, 0, 0), -1);
        }
    }

    // ---- swap

    /** A coin of land 1 that may be given, and one of land 2 that may be had. */
    private static CoinsOfLast givenAndHad(int worth, int held, int wanted, int had) {
        CoinsOfLast x = new CoinsOfLast();
        x.sort(100 + worth, 0);
        x.sort(200 + wanted, 0);
        x.purse(0, held);
        x.purse(1, had);
        return x;
    }

    private static void swapOneToThree() {
        Due.says("of all gifts of 1 to 3 coins of one SORT of THE PURSE for 1 to 3 of another SORT");
        CoinsOfLast x = givenAndHad(40, 6, 1, 0);
        Due.is("0 can be paid", x.swap(20000, 0), -5);
        Due.is("one is had", x.swap(20001, 0), 111);
        Due.is("two are had", x.swap(20002, 0), 112);
        Due.is("three are had", x.swap(20003, 0), 113);
        Due.is("four are none", x.swap(20004, 0), -2);
        for (int worth = 1; worth <= 4; worth++) {
            CoinsOfLast y = givenAndHad(1, 6, worth, 0);
            Due.is(worth + " are given", y.swap(20000 + worth, 0), worth < 4 ? 100 * worth + 11 : -2);
        }
        for (int worth = 9; worth <= 16; worth++) {
            // Three of 10 for two of 15 at most.
            CoinsOfLast z = givenAndHad(10, 6, worth, 0);
            Due.is("two of " + worth, z.swap(20000 + 2 * worth, 0), worth < 11 ? 212 : worth < 16 ? 312 : -2);
        }
        // Another sort, not the same: one coin for three of its own is none.
        CoinsOfLast w = new CoinsOfLast();
        w.sort(110, 0);
        w.purse(0, 1);
        for (int amount = 20; amount <= 30; amount += 10) {
            Due.is("of one sort alone", w.swap(10000 + amount, 0), -2);
        }
        Due.is("of no sort at all", new CoinsOfLast().swap(10001, 0), -2);
    }

    private static void swapOfThePurse() {
        Due.says("gifts of 1 to 3 coins of one SORT of THE PURSE");
        for (int n = 1; n <= 3; n++) {
            for (int held = 0; held <= 6; held++) {
                CoinsOfLast x = givenAndHad(1, held, n, 0);
                Due.is(n + " of " + held, x.swap(20000 + n, 0), held >= n ? 100 * n + 11 : -2);
                Due.is("the purse stays", x.of(0, 4), held);
                Due.is("none is had", x.of(1, 4), 0);
            }
        }
        // The coins that are given can't pay any more.
        CoinsOfLast y = new CoinsOfLast();
        y.sort(104, 0);
        y.sort(103, 0);
        y.purse(0, 1);
        Due.is("4 and 3 by one 4", y.swap(10007, 0), -2);
        Due.is("3 by one 4", y.swap(10003, 0), 111);
        y.purse(0, 2);
        Due.is("4 and 3 by two", y.swap(10007, 0), 111);
    }

    private static void swapNoMoreThanSix() {
        Due.says("(which the other one has without end; none of more than 6 then)");
        for (int had = 0; had <= 6; had++) {
            CoinsOfLast x = givenAndHad(40, 1, 1, had);
            for (int more = 1; more <= 4; more++) {
                Due.is(had + " and " + more, x.swap(20000 + had + more, 0), more <= 3 && had + more <= 6 ? 110 + more : -2);
            }
        }
    }

    private static void swapWorthNoLess() {
        Due.says("what is given is, by THE RATE of a DAY to the LAND of what is had (cut), worth no less than that");
        int[] wants = {111, 111, 211, 211};
        for (int worth = 9; worth <= 12; worth++) {
            Due.is("10 for " + worth, givenAndHad(10, 6, worth, 0).swap(20000 + worth, 0), wants[worth - 9]);
        }
        Due.is("one 10 for 9", givenAndHad(10, 1, 9, 0).swap(20009, 0), 111);
        Due.is("one 10 for 10", givenAndHad(10, 1, 10, 0).swap(20010, 0), 111);
        Due.is("one 10 for 11", givenAndHad(10, 1, 11, 0).swap(20011, 0), -2);
        CoinsOfLast x = givenAndHad(10, 1, 11, 0);
        // From land 1 to land 2 alone by the day; the other way for 9999.
        Due.law(x, 0, "a=1&b=2?d;9999");
        int[][] days = {{1, -2}, {1000, -2}, {1099, -2}, {1100, 111}, {1101, 111}, {9999, 111}};
        for (int[] day : days) {
            Due.is("10 for 11 on day " + day[0], x.swap(20011, day[0]), day[1]);
        }
        // What is given is cut, not each coin of it: two of 5 at 1100 are 11.
        CoinsOfLast y = givenAndHad(5, 2, 11, 0);
        Due.law(y, 0, "d");
        Due.is("two of 5 at 1099", y.swap(20011, 1099), -2);
        Due.is("two of 5 at 1100", y.swap(20011, 1100), 211);
        // One land for itself goes at 1000.
        CoinsOfLast z = new CoinsOfLast();
        z.sort(110, 0);
        z.sort(111, 0);
        z.purse(0, 1);
        Due.law(z, 0, "9999");
        Due.is("10 for 11 of the land itself", z.swap(10011, 0), -2);
        z.purse(0, 2);
        Due.is("two of 10 for 11 of the land itself", z.swap(10011, 0), 211);
    }

    private static void swapPrices() {
        Due.says("behind which a PRICE of a LAND can be PAID");
        CoinsOfLast x = givenAndHad(40, 1, 10, 2);
        int[] wants = {-5, -5, -5, 111, 112, 113, -2};
        for (int tens = 0; tens < wants.length; tens++) {
            Due.is(tens + " tens", x.swap(20000 + 10 * tens, 0), wants[tens]);
            Due.is(tens + " tens and 1", x.swap(20001 + 10 * tens, 0), -2);
        }
        Due.is("of land 1 as it is", x.swap(10040, 0), -5);
        Due.is("of land 1: 80", x.swap(10080, 0), -2);
        Due.is("far too much", x.swap(29999, 0), -2);
        x.purse(1, 6);
        Due.is("40 of land 1 and another", x.swap(10080, 0), -2);
        // 30 of land 2 can't pay 80 of land 1, three of 10 are too little for one of 40.
        x.mend(0, 0, 30);
        Due.is("three of 10 for one of 30", x.swap(10060, 0), 1301);
        x.mend(0, 0, 31);
        Due.is("three of 10 for one of 31", x.swap(10062, 0), -2);
    }

    private static void swapFewestTogether() {
        Due.says("the one with the fewest coins together, then the least SORT given");
        CoinsOfLast x = new CoinsOfLast();
        x.sort(105, 0);
        x.sort(210, 0);
        x.sort(110, 0);
        x.purse(0, 6);
        x.purse(2, 1);
        // Two of 5, or one of 10: two coins together go ahead of three.
        Due.is("one for one", x.swap(20010, 0), 2111);
        x.purse(2, 0);
        Due.is("two for one", x.swap(20010, 0), 211);
        x.purse(0, 1);
        Due.is("none", x.swap(20010, 0), -2);
        // 20 by two of 10 or by one of 20: three coins together, or two of another sort that comes later.
        CoinsOfLast y = new CoinsOfLast();
        y.sort(140, 0);
        y.sort(210, 0);
        y.sort(220, 0);
        y.purse(0, 1);
        Due.is("one of 20", y.swap(20020, 0), 121);
        y.mend(2, 0, 19);
        Due.is("two of 10", y.swap(20020, 0), 112);
    }

    private static void swapLeastSorts() {
        Due.says("then the least SORT given, the least SORT had, the fewest given: as digits: SORT given, how many, SORT had, how many.");
        CoinsOfLast x = new CoinsOfLast();
        x.sort(110, 0);
        x.sort(110, 0);
        x.sort(210, 0);
        x.sort(210, 0);
        x.purse(0, 1);
        x.purse(1, 1);
        Due.is("the least of both", x.swap(20010, 0), 121);
        x.purse(2, 6);
        x.mend(2, 0, 11);
        Due.is("the least that helps", x.swap(20010, 0), 131);
        x.purse(0, 0);
        Due.is("the least that is there", x.swap(20010, 0), 1131);
        // The least sort given goes ahead of the least sort had: 10 for the second 10 of sort 3, 20 for sort 2.
        CoinsOfLast y = new CoinsOfLast();
        y.sort(110, 0);
        y.sort(120, 0);
        y.sort(220, 0);
        y.sort(210, 0);
        y.purse(0, 1);
        y.purse(1, 1);
        y.purse(3, 1);
        Due.is("sort 0 for sort 3", y.swap(20020, 0), 131);
        y.purse(0, 0);
        Due.is("sort 1 for sort 2", y.swap(20020, 0), 1121);
        // The fewest given never tells: where two numbers of coins of like sorts would do, one coin less does, too.
        CoinsOfLast z = new CoinsOfLast();
        for (int s = 0; s < 8; s++) {
            z.sort((s < 7 ? 100 : 200) + 9, 0);
        }
        z.purse(6, 3);
        Due.is("the last sorts", z.swap(20027, 0), 6373);
        Due.is("the last sorts", z.swap(20009, 0), 6171);
    }

    private static void swapAsked() {
        Due.says("SWAP (la, as of paid()): the four digits. BAD; NOT: none; STATE: it can be PAID as it is.");
        CoinsOfLast x = givenAndHad(40, 1, 1, 0);
        Due.range("la", 0, 39999, -1, la -> x.swap(la, 0));
        Due.range("day", 0, 9999, -1, day -> x.swap(20001, day));
        Due.is("bad ahead of state", x.swap(20000, 10000), -1);
        Due.is("bad ahead of state", x.swap(40000, 0), -1);
        Due.is("bad ahead of none", x.swap(29999, -1), -1);
        Due.is("state", x.swap(10040, 0), -5);
        Due.is("none", x.swap(10041, 0), -2);
        Due.is("none", x.swap(10039, 0), -2);
        Due.is("nothing is given", x.count(2), 1);
    }

    // ---- kept, heap

    private static CoinsOfLast byYears(String text) {
        CoinsOfLast x = new CoinsOfLast();
        x.sort(110, 5000);
        x.purse(0, 2);
        Due.is("law of " + text, Due.law(x, 1, text), 1);
        return x;
    }

    private static void keptYears() {
        Due.says("KEEP for y years (0 .. 60): what THE PURSE comes to by THE YEARS");
        CoinsOfLast x = byYears("y+1");
        for (int y : new int[] {0, 1, 59, 60}) {
            Due.is("kept for " + y, x.kept(y), 2 * (y + 1));
        }
        Due.is("an empty purse", new CoinsOfLast().kept(60), 0);
        Due.says("KEEP: for y years (what y), the best year (100), that (101). BAD.");
        for (int what : new int[] {-1, 61, 62, 98, 99, 102, 103, Integer.MIN_VALUE, Integer.MAX_VALUE}) {
            Due.is("kept(" + what + ")", x.kept(what), -1);
            Due.is("kept(" + what + ") of nothing", new CoinsOfLast().kept(what), -1);
        }
        Due.is("the best year", x.kept(100), 60);
        Due.is("that", x.kept(101), 122);
    }

    private static void keptBestYear() {
        Due.says("the year of 0 .. 60 in which most (the first); that.");
        for (int best : new int[] {0, 1, 30, 59, 60, 61}) {
            CoinsOfLast x = byYears("y=" + best + "?9;8");
            Due.is("the best year", x.kept(100), best <= 60 ? best : 0);
            Due.is("that", x.kept(101), best <= 60 ? 18 : 16);
            CoinsOfLast y = byYears("y>" + best + "?9;8");
            Due.is("the first of the best", y.kept(100), best < 60 ? best + 1 : 0);
            CoinsOfLast z = byYears("y>" + best + "?8;9");
            Due.is("the first of all", z.kept(100), 0);
        }
        CoinsOfLast w = byYears("0");
        Due.is("none ever", w.kept(100), 0);
        Due.is("that", w.kept(101), 0);
        CoinsOfLast v = new CoinsOfLast();
        Due.is("of nothing", v.kept(100), 0);
        Due.is("that", v.kept(101), 0);
    }

    private static void keptAllLands() {
        Due.says("(all LANDS added)");
        CoinsOfLast x = new CoinsOfLast();
        for (int s = 0; s < 8; s++) {
            x.sort(100 * (s % 4) + s + 1, 0);
            x.purse(s, s % 7);
        }
        int want = 0;
        for (int s = 0; s < 8; s++) {
            want += (s + 1) * (s % 7);
        }
        Due.is("without a text", x.kept(5), want);
        Due.law(x, 1, "l*1000+w");
        Due.is("by a text", x.kept(5), want + 1000 * (1 + 2 * 2 + 3 * 3 + 5 + 2 * 6));
        for (int s = 0; s < 8; s++) {
            x.purse(s, 6);
        }
        Due.law(x, 1, "9999");
        Due.is("the greatest", x.kept(60), 48 * 9999);
    }

    private static void heapAsked() {
        Due.says("HEAP (lw: 10000 times the LAND, and w 0 .. 1200), n coins of g (0 .. 1980). BAD.");
        CoinsOfLast x = new CoinsOfLast();
        x.sort(340, 99);
        for (int land = 0; land < 4; land++) {
            int l = 10000 * land;
            Due.ends("w", 0, 1200, -1, w -> x.heap(l + w, 0, 0));
            Due.is("w 9999", x.heap(l + 9999, 0, 0), -1);
        }
        Due.range("lw", 0, 31200, -1, lw -> x.heap(lw, 0, 0));
        Due.is("land 4", x.heap(40000, 0, 0), -1);
        Due.range("n", 0, 20, -1, n -> x.heap(30000, n, 0));
        Due.range("g", 0, 1980, -1, g -> x.heap(30000, 0, g));
        Due.is("20 of them", x.heap(30800, 20, 1980), 1);
        Due.is("19 of them", x.heap(30760, 19, 1881), 1);
        Due.is("lighter", x.heap(30800, 20, 1979), 0);
        Due.is("cheaper", x.heap(30799, 20, 1980), 0);
        Due.is("dearer", x.heap(30801, 20, 1980), 0);
        Due.is("fewer", x.heap(30800, 19, 1980), 0);
        Due.is("21 of them", x.heap(30840, 21, 1980), -1);
        Due.is("the greatest w", x.heap(31200, 20, 1980), 0);
    }

    private static void heapWays() {
        Due.says("HEAP: n coins (0 .. 20) of SORTS of a LAND (as many of each as one likes) that weigh g and come to w together: how many ways.");
        CoinsOfLast x = new CoinsOfLast();
        int[] none = {x.heap(0, 0, 0), x.heap(1, 0, 0), x.heap(0, 0, 1), x.heap(0, 1, 0), x.heap(1, 1, 1)};
        int[] dueOfNone = {1, 0, 0, 0, 0};
        for (int i = 0; i < none.length; i++) {
            Due.is("without a sort", none[i], dueOfNone[i]);
        }
        // As many of each as one likes: the purse has none of them. Each like sort more: one of n + k - 1 over k - 1.
        int[] wants = {1, 21, 231, 1771, 10626, 53130, 230230, 888030};
        for (int k = 1; k <= 8; k++) {
            x.sort(201, 1);
            Due.is("20 of " + k + " like sorts", x.heap(20020, 20, 20), wants[k - 1]);
            Due.is("1 of them", x.heap(20001, 1, 1), k);
            Due.is("none of them", x.heap(20000, 0, 0), 1);
            Due.is("too heavy", x.heap(20020, 20, 21), 0);
            Due.is("of another land", x.heap(10020, 20, 20), 0);
        }
        CoinsOfLast y = new CoinsOfLast();
        y.sort(1, 5);
        y.sort(2, 3);
        y.sort(3, 1);
        // a + b + c = 6, a + 2b + 3c = 12, 5a + 3b + c = 18: a is c, from 0 to 3.
        Due.is("three sorts in a row", y.heap(12, 6, 18), 4);
        Due.is("one more of worth", y.heap(13, 6, 16), 3);
        Due.is("weights that don't fit", y.heap(12, 6, 17), 0);
        Due.is("just the first", y.heap(6, 6, 30), 1);
        heapOfTwo();
        Due.is("just the last", y.heap(18, 6, 6), 1);
        Due.is("one above", y.heap(19, 6, 6), 0);
    }

    private static void heapOfTwo() {
        // Two sorts of one weight, of one worth, and unlike in both.
        int[][] seconds = {{2, 5}, {1, 7}, {2, 7}};
        for (int[] second : seconds) {
            CoinsOfLast x = new CoinsOfLast();
            x.sort(1, 5);
            x.sort(second[0], second[1]);
            for (int n = 0; n <= 20; n++) {
                for (int c = -1; c <= n + 1; c++) {
                    // c of the first one and n - c of the second one: none when c is below 0 or above n.
                    int w = c + (n - c) * second[0];
                    int g = 5 * c + (n - c) * second[1];
                    if (w >= 0 && g >= 0 && n % 5 == 0) {
                        Due.is(c + " of " + n, x.heap(w, n, g), c >= 0 && c <= n ? 1 : 0);
                    }
                }
            }
            Due.is("a weight between", x.heap(10 * second[0], 10, 10 * second[1] - 1), 0);
            Due.is("a worth between", x.heap(10 * second[0] + 1, 10, 10 * second[1]), 0);
        }
    }

    // ---- give, led, image

    private static void give() {
        Due.says("GIVEN to the plate: all of a LAND: their WORTH.");
        for (int held = 0; held <= 6; held++) {
            CoinsOfLast x = new CoinsOfLast();
            x.sort(140, 0);
            x.sort(201, 0);
            x.sort(107, 0);
            x.purse(0, held);
            x.purse(1, 6);
            x.purse(2, 6 - held);
            Due.is("of a land without any", x.give(3), 0);
            Due.is("coins given", x.led(2), 0);
            Due.is("worth of " + held, x.give(1), 33 * held + 42);
            Due.is("coins given", x.led(2), 6);
            Due.is("none is there", x.of(0, 4), 0);
            Due.is("none is there", x.of(2, 4), 0);
            Due.is("the other land's stay", x.of(1, 4), 6);
            Due.is("once more", x.give(1), 0);
            Due.is("coins given", x.led(2), 6);
            Due.is("the other land", x.give(2), 6);
            Due.is("coins given in all", x.led(2), 12);
            Due.is("none is spent", x.led(1), 0);
            Due.is("none is lost", x.led(0), 0);
        }
        CoinsOfLast y = new CoinsOfLast();
        for (int s = 0; s < 8; s++) {
            y.sort(340, 0);
            y.purse(s, 6);
        }
        Due.is("all coins there may be", y.give(3), 1920);
        Due.is("coins given", y.led(2), 48);
    }

    private static void led() {
        Due.says("LED: LOST in all, SPENT in all (what was PAID less what came back), coins GIVEN.");
        CoinsOfLast x = new CoinsOfLast();
        for (int what = 0; what < 3; what++) {
            Due.is("at first", x.led(what), 0);
        }
        Due.range("what", 0, 2, -1, what -> x.led(what));
        x.sort(110, 0);
        x.sort(101, 0);
        x.thing(1007, 9);
        int[] lost = {3, 3, 3};
        int[] spent = {10, 10, 10};
        for (int n = 0; n < 3; n++) {
            x.rule(1, 1);
            x.purse(0, 1);
            x.purse(1, 0);
            Due.is("buy", x.buy(0), spent[n]);
            Due.is("lost in all", x.led(0), lost[n] * (n + 1));
            Due.is("spent in all", x.led(1), spent[n] * (n + 1));
        }
        x.rule(1, 2);
        x.purse(0, 1);
        x.purse(1, 0);
        Due.is("buy with change", x.buy(0), 7);
        Due.is("lost in all", x.led(0), 9);
        Due.is("spent in all", x.led(1), 37);
        x.purse(0, 1);
        x.purse(1, 5);
        Due.is("buy with some change", x.buy(0), 9);
        Due.is("lost in all", x.led(0), 11);
        Due.is("spent in all", x.led(1), 46);
        Due.is("none given", x.led(2), 0);
        Due.is("what is given", x.give(1), 6);
        Due.is("coins given", x.led(2), 6);
        Due.is("not spent", x.led(1), 46);
    }

    private static void image() {
        Due.says("AN IMAGE is kept: how many SORTS.");
        CoinsOfLast x = new CoinsOfLast();
        Due.says("All that it keeps is as in THE IMAGE (SORTS, THINGS that came since stay, with none of them, with MANY as they are): "
            + "how many SORTS. STATE: there is none.");
        Due.is("there is none", x.back(), -5);
        for (int s = 0; s <= 8; s++) {
            Due.is("image of " + s, x.image(), s);
            Due.is("back with " + s, x.back(), s);
            Due.is("and again", x.back(), s);
            x.sort(101, 0);
        }
        CoinsOfLast y = new CoinsOfLast();
        y.sort(101, 0);
        y.image();
        for (int held = 0; held <= 6; held++) {
            y.purse(0, held);
            y.back();
            Due.is("none, as in the image", y.of(0, 4), 0);
        }
        for (int held = 0; held <= 6; held++) {
            y.purse(0, held);
            y.image();
            y.purse(0, 6 - held);
            y.back();
            Due.is("as in the latest image", y.of(0, 4), held);
        }
    }

    private static void imageOfWhatCame() {
        Due.says("(SORTS, THINGS that came since stay, with none of them, with MANY as they are)");
        CoinsOfLast x = new CoinsOfLast();
        x.sort(101, 0);
        x.purse(0, 5);
        x.thing(1001, 3);
        Due.is("image", x.image(), 1);
        x.sort(101, 0);
        x.purse(1, 6);
        x.thing(1001, 9);
        Due.is("buy", x.buy(0), 1);
        Due.is("buy", x.buy(1), 1);
        Due.is("buy", x.buy(1), 1);
        Due.is("spent", x.led(1), 3);
        Due.is("back", x.back(), 2);
        Due.is("sort 0", x.of(0, 4), 5);
        Due.is("sort 1, that came since", x.of(1, 4), 0);
        Due.is("thing 0", x.of(0, 13), 3);
        Due.is("thing 1, that came since", x.of(1, 13), 7);
        Due.is("spent", x.led(1), 0);
        Due.is("sorts", x.count(0), 2);
        Due.is("things", x.count(1), 2);
        // What is LED goes back to what it was, not to nothing.
        x.buy(0);
        x.give(1);
        Due.is("image", x.image(), 2);
        x.purse(0, 3);
        x.buy(0);
        x.give(1);
        Due.is("spent", x.led(1), 2);
        Due.is("given", x.led(2), 6);
        Due.is("back", x.back(), 2);
        Due.is("spent", x.led(1), 1);
        Due.is("given", x.led(2), 4);
        Due.is("thing 0", x.of(0, 13), 2);
        // The image of nothing: all came since.
        CoinsOfLast y = new CoinsOfLast();
        y.image();
        for (int s = 0; s < 8; s++) {
            y.sort(101, 0);
            y.purse(s, 6);
        }
        for (int t = 0; t < 10; t++) {
            y.thing(1001, 9);
            y.buy(t);
        }
        Due.is("back", y.back(), 8);
        Due.is("no coins", y.count(2), 0);
        for (int t = 0; t < 10; t++) {
            Due.is("many as they are", y.of(t, 13), 8);
        }
        Due.is("spent", y.led(1), 0);
    }

    // ---- undo, redo

    private static void sameNumberIsNone() {
        Due.says("CHANGES (WORTH, SIZE, WEIGHT of SORTS; PRICE, VALUE of THINGS; telling the same number is none)");
        int[] now = {10, 20, 30, 40, 50};
        for (int what = 0; what < 5; what++) {
            CoinsOfLast x = new CoinsOfLast();
            x.sort(110, 2030);
            x.thing(1040, 505);
            Due.is("the same", x.mend(0, what, now[what]), now[what]);
            Due.is("none", x.count(4), 0);
            Due.is("none to undo", x.undo(), -5);
            Due.is("1 more", x.mend(0, what, now[what] + 1), now[what]);
            Due.is("one", x.count(4), 1);
            Due.is("1 less", x.mend(0, what, now[what] - 1), now[what] + 1);
            Due.is("two", x.count(4), 2);
            Due.is("the same", x.mend(0, what, now[what] - 1), now[what] - 1);
            Due.is("two", x.count(4), 2);
            Due.is("undo", x.undo(), 1);
            // To tell the same is no other change: what is undone can be done again.
            Due.is("the same", x.mend(0, what, now[what] + 1), now[what] + 1);
            Due.is("redo", x.redo(), 0);
        }
        // What is no CHANGE can't be undone.
        CoinsOfLast y = new CoinsOfLast();
        y.sort(110, 2030);
        y.thing(1010, 505);
        y.purse(0, 6);
        y.rule(1, 1);
        y.window(0, 5);
        y.buy(0);
        y.give(1);
        y.image();
        y.back();
        Due.is("no change", y.count(4), 0);
        Due.is("none", y.undo(), -5);
        Due.is("none", y.redo(), -5);
    }

    private static void latestFirst() {
        Due.says("can be UNDONE, the latest first, and DONE AGAIN");
        CoinsOfLast x = new CoinsOfLast();
        x.sort(110, 2030);
        x.sort(210, 2030);
        x.thing(1040, 505);
        Due.is("none", x.undo(), -5);
        Due.is("none", x.redo(), -5);
        Due.is("first", x.mend(0, 0, 11), 10);
        Due.is("second", x.mend(1, 0, 12), 10);
        Due.is("third", x.mend(0, 0, 13), 11);
        Due.is("undo the third", x.undo(), 2);
        Due.is("sort 0", x.of(0, 1), 11);
        Due.is("sort 1", x.of(1, 1), 12);
        Due.is("undo the second", x.undo(), 1);
        Due.is("sort 0", x.of(0, 1), 11);
        Due.is("sort 1", x.of(1, 1), 10);
        Due.is("undo the first", x.undo(), 0);
        Due.is("sort 0", x.of(0, 1), 10);
        Due.is("none", x.undo(), -5);
        Due.is("redo the first", x.redo(), 2);
        Due.is("sort 0", x.of(0, 1), 11);
        Due.is("sort 1", x.of(1, 1), 10);
        Due.is("redo the second", x.redo(), 1);
        Due.is("sort 1", x.of(1, 1), 12);
        Due.is("redo the third", x.redo(), 0);
        Due.is("sort 0", x.of(0, 1), 13);
        Due.is("none", x.redo(), -5);
        Due.is("undo", x.undo(), 2);
        Due.is("undo and redo", x.redo(), 0);
        Due.is("may be undone", x.count(4), 3);
    }

    private static void noOtherBehind() {
        Due.says("DONE AGAIN (as long as no other came behind)");
        for (int undone = 0; undone <= 3; undone++) {
            CoinsOfLast x = new CoinsOfLast();
            x.sort(110, 2030);
            x.thing(1040, 505);
            for (int n = 1; n <= 3; n++) {
                x.mend(0, 1, 20 + n);
            }
            for (int n = 0; n < undone; n++) {
                Due.is("undo", x.undo(), 2 - n);
            }
            Due.is("a bad one is none", x.mend(0, 1, 100), -1);
            Due.is("another", x.mend(0, 3, 41), 40);
            Due.is("none can be done again", x.redo(), -5);
            Due.is("may be undone", x.count(4), 4 - undone);
            Due.is("undo the other", x.undo(), 3 - undone);
            Due.is("redo the other", x.redo(), 0);
            Due.is("price", x.of(0, 11), 41);
            Due.is("size", x.of(0, 2), 23 - undone);
        }
    }

    private static void fortyAtMost() {
        Due.says("40 at most are kept.");
        for (int made : new int[] {1, 2, 39, 40, 41, 42, 80, 81}) {
            CoinsOfLast x = new CoinsOfLast();
            x.sort(110, 0);
            for (int n = 1; n <= made; n++) {
                x.mend(0, 1, n);
            }
            int kept = Math.min(made, 40);
            Due.is("of " + made, x.count(4), kept);
            for (int n = 1; n <= kept; n++) {
                Due.is("undo", x.undo(), kept - n);
                Due.is("size", x.of(0, 2), made - n);
            }
            Due.is("none more", x.undo(), -5);
            Due.is("size stays", x.of(0, 2), made - kept);
            for (int n = 1; n <= kept; n++) {
                Due.is("redo", x.redo(), kept - n);
            }
            Due.is("none more", x.redo(), -5);
            Due.is("size", x.of(0, 2), made);
            Due.is("may be undone", x.count(4), kept);
        }
    }

    private static void theFirstIsForgotten() {
        Due.says("40 at most are kept.");
        CoinsOfLast x = new CoinsOfLast();
        x.sort(110, 2030);
        x.sort(110, 2030);
        x.thing(1040, 505);
        // A change each of other ones, then 38 of one: with the 41st the first is forgotten, then the second.
        x.mend(1, 0, 11);
        x.mend(0, 3, 41);
        for (int n = 1; n <= 38; n++) {
            x.mend(0, 1, 40 + n);
        }
        Due.is("forty", x.count(4), 40);
        x.mend(0, 2, 99);
        Due.is("forty", x.count(4), 40);
        for (int n = 39; n >= 1; n--) {
            Due.is("undo", x.undo(), n);
            Due.is("price", x.of(0, 11), 41);
        }
        Due.is("size", x.of(0, 2), 20);
        Due.is("weight", x.of(0, 3), 30);
        Due.is("undo the second", x.undo(), 0);
        Due.is("price", x.of(0, 11), 40);
        Due.is("the first is forgotten", x.undo(), -5);
        Due.is("its worth stays", x.of(1, 1), 11);
        for (int n = 39; n >= 0; n--) {
            Due.is("redo", x.redo(), n);
        }
        Due.is("price", x.of(0, 11), 41);
        Due.is("size", x.of(0, 2), 78);
        Due.is("weight", x.of(0, 3), 99);
        Due.is("none", x.redo(), -5);
    }

    private static void fortyAndUndone() {
        Due.says("40 at most are kept.");
        for (int undone : new int[] {0, 1, 2, 39, 40}) {
            CoinsOfLast x = new CoinsOfLast();
            x.sort(110, 0);
            for (int n = 1; n <= 41; n++) {
                x.mend(0, 1, n);
            }
            for (int n = 0; n < undone; n++) {
                x.undo();
            }
            Due.is("may be undone", x.count(4), 40 - undone);
            x.mend(0, 2, 99);
            Due.is("with another", x.count(4), Math.min(40, 41 - undone));
            Due.is("none can be done again", x.redo(), -5);
            Due.is("undo", x.undo(), Math.min(40, 41 - undone) - 1);
            Due.is("size", x.of(0, 2), 41 - undone);
            Due.is("weight", x.of(0, 3), 0);
        }
    }
}
