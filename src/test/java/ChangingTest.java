/** Promises 19 to 31: changing, swapping, keeping. */
public final class ChangingTest {
    public static void main(String[] args) {
        change();
        way();
        wayOrder();
        round();
        waits();
        swap();
        swapOrder();
        swapRefused();
        kept();
        heap();
        giveAndLed();
        imageAndBack();
        undoAndRedo();
        fortyChanges();
        fortyUnlikeChanges();
        Due.close();
    }

    private static void change() {
        CoinsOfLast x = new CoinsOfLast();
        Due.is("without a text", x.change(9999, 1, 0), 9999);
        Due.is("law", Due.law(x, 0, "a*1000+b*10+d"), 1);
        Due.is("rate 2010", x.change(100, 21, 0), 201);
        Due.is("rate 2019, cut", x.change(100, 21, 9), 201);
        Due.is("rate 17", x.change(100, 1, 7), 1);
        Due.is("rate 10, cut to 0", x.change(99, 1, 0), 0);
        x.window(0, 1);
        Due.is("a share of 2.01 is 3", x.change(100, 21, 0), 198);
        x.window(0, 50);
        Due.is("a share of 100.5 is 101", x.change(100, 21, 0), 100);
        x.window(1, 7);
        Due.is("and a fee", x.change(100, 21, 0), 93);
        Due.is("0 at least", x.change(5, 21, 0), 0);
        x.window(0, 0);
        Due.is("a fee alone", x.change(100, 21, 0), 194);
        x.window(0, 99);
        x.window(1, 0);
        Due.is("most", x.change(9999, 30, 9999), 99980 - 98981);
        int[][] bad = {{-1, 1, 0}, {10000, 1, 0}, {5, 0, 0}, {5, 11, 0}, {5, 22, 0}, {5, 33, 0}, {5, 4, 0}, {5, 40, 0}, {5, -1, 0},
            {5, 1, -1}, {5, 1, 10000}};
        for (int[] b : bad) {
            Due.is("change(" + b[0] + ", " + b[1] + ", " + b[2] + ")", x.change(b[0], b[1], b[2]), -1);
            for (int what = 0; what < 2; what++) {
                Due.is("way(" + b[0] + ", " + b[1] + ", " + b[2] + ")", x.way(b[0], b[1], b[2], what), -1);
            }
        }
        Due.is("change of 0", x.change(0, 1, 0), 0);
    }

    private static void way() {
        CoinsOfLast x = new CoinsOfLast();
        // 0 to 1 doubles on the first day, 1 to 3 triples on the second one, 0 to 3 just two and a half.
        Due.is("law", Due.law(x, 0, "(a=0)&(b=1)&(d=5)?2000;(a=1)&(b=3)&(d=6)?3000;(a=0)&(b=3)?2500;900"), 1);
        Due.is("the best", x.way(10, 3, 5, 0), 60);
        Due.is("its lands", x.way(10, 3, 5, 1), 124);
        Due.is("a day later", x.way(10, 3, 6, 0), 25);
        Due.is("its lands", x.way(10, 3, 6, 1), 14);
        x.window(1, 20);
        Due.is("all is lost", x.way(10, 3, 5, 0), 5);
        Due.is("its lands", x.way(10, 3, 5, 1), 14);
        Due.is("three changes", Due.law(x, 0, "(b-a=1)&(d=9996+b)?9999;1"), 1);
        x.window(1, 0);
        Due.is("the days go on behind the last one", x.way(1000, 3, 9997, 0), 999700);
        Due.is("its lands", x.way(1000, 3, 9997, 1), 1234);
        Due.is("behind day 9999", Due.law(x, 0, "d>9999?2000;1000"), 1);
        Due.is("two more days", x.way(1000, 3, 9999, 0), 4000);
        Due.is("its lands", x.way(1000, 3, 9999, 1), 1234);
        Due.is("what 2", x.way(1, 1, 0, 2), -1);
        Due.is("what -1", x.way(1, 1, 0, -1), -1);
        Due.is("9999 by 9999 thrice", Due.law(x, 0, "9999"), 1);
        Due.is("so much", x.way(9999, 32, 0, 0), 9996000);
        Due.is("its lands", x.way(9999, 32, 0, 1), 4123);
    }

    private static void wayOrder() {
        CoinsOfLast x = new CoinsOfLast();
        // All ways are alike: the first one by rows of lands.
        Due.is("0 to 1", x.way(7, 1, 0, 1), 12);
        Due.is("0 to 2", x.way(7, 2, 0, 1), 123);
        Due.is("0 to 3", x.way(7, 3, 0, 1), 1234);
        Due.is("1 to 0", x.way(7, 10, 0, 1), 21);
        Due.is("1 to 2", x.way(7, 12, 0, 1), 213);
        Due.is("1 to 3", x.way(7, 13, 0, 1), 2134);
        Due.is("3 to 0", x.way(7, 30, 0, 1), 41);
        Due.is("3 to 1", x.way(7, 31, 0, 1), 412);
        Due.is("3 to 2", x.way(7, 32, 0, 1), 4123);
        Due.is("2 to 0", x.way(0, 20, 9999, 1), 31);
        Due.is("round from 0", x.round(7, 0, 0, 1), 121);
        Due.is("round from 1", x.round(7, 1, 0, 1), 212);
        Due.is("round from 2", x.round(7, 2, 0, 1), 3123);
        Due.is("round from 3", x.round(7, 3, 0, 1), 41234);
        for (int a = 0; a < 4; a++) {
            Due.is("a round of like rates", x.round(7, a, 0, 0), 7);
        }
    }

    private static void round() {
        CoinsOfLast x = new CoinsOfLast();
        Due.is("law", Due.law(x, 0, "(a+1-b)%4?500;2000"), 1);
        // Each step to the next land (3 to 0 too) doubles.
        Due.is("all the way round", x.round(10, 0, 0, 0), 160);
        Due.is("its lands", x.round(10, 0, 0, 1), 12341);
        Due.is("all the way round", x.round(10, 2, 0, 0), 160);
        Due.is("its lands", x.round(10, 2, 0, 1), 34123);
        x.window(1, 30);
        Due.is("all is lost", x.round(10, 2, 0, 0), 0);
        Due.is("law", Due.law(x, 0, "d=0?3000;d=1?3000;1"), 1);
        Due.is("two changes", x.round(100, 1, 0, 0), 780);
        Due.is("its lands", x.round(100, 1, 0, 1), 212);
        Due.is("law", Due.law(x, 0, "(a+b)*100+d"), 1);
        x.window(1, 0);
        Due.is("by the best", x.round(9999, 3, 9999, 0), best(9999, 3, 9999));
        Due.is("what 2", x.round(1, 1, 0, 2), -1);
        Due.is("what -1", x.round(1, 1, 0, -1), -1);
        Due.is("land 4", x.round(1, 4, 0, 0), -1);
        Due.is("land -1", x.round(1, -1, 0, 0), -1);
        Due.is("x -1", x.round(-1, 0, 0, 0), -1);
        Due.is("x 10000", x.round(10000, 0, 0, 0), -1);
        Due.is("day -1", x.round(1, 0, -1, 0), -1);
        Due.is("day 10000", x.round(1, 0, 10000, 0), -1);
        Due.is("9999 four times", Due.law(x, 0, "9999"), 1);
        Due.is("so much", x.round(9999, 0, 0, 0), 99950004);
        Due.is("its lands", x.round(9999, 0, 0, 1), 12341);
    }

    /** What x becomes at most by a round of one to three others, at (a + b) * 100 + d, at most 9999. */
    private static long best(long x, int a, int day) {
        long most = 0;
        for (int b = 0; b < 4; b++) {
            for (int c = 0; c < 4 && b != a; c++) {
                if (c == b) {
                    continue;
                }
                long two = at(at(x, a, b, day), b, c, day + 1);
                if (c == a) {
                    most = Math.max(most, two);
                    continue;
                }
                most = Math.max(most, at(two, c, a, day + 2));
                int d = 6 - a - b - c;
                most = Math.max(most, at(at(two, c, d, day + 2), d, a, day + 3));
            }
        }
        return most;
    }

    private static long at(long x, int a, int b, int day) {
        return x * Math.min(9999, (a + b) * 100 + day) / 1000;
    }

    private static void waits() {
        CoinsOfLast x = new CoinsOfLast();
        Due.is("law", Due.law(x, 0, "d%7*100+500"), 1);
        Due.is("the day", x.waits(1000, 1, 800, 0), 8);
        Due.is("so much", x.waits(1000, 1, 800, 1), 600);
        Due.is("the best of three days", x.waits(1000, 1, 802, 0), 10);
        Due.is("so much", x.waits(1000, 1, 802, 1), 800);
        Due.is("the first of the best", x.waits(1000, 1, 860, 0), 13);
        Due.is("so much", x.waits(1000, 1, 860, 1), 1100);
        Due.is("up to the last of them", x.waits(1000, 1, 805, 0), 13);
        Due.is("not yet", x.waits(1000, 1, 804, 0), 12);
        Due.is("of nothing the first", x.waits(0, 1, 860, 0), 8);
        Due.is("behind the last day", Due.law(x, 0, "d"), 1);
        Due.is("rates stay below 10000", x.waits(1000, 1, 999760, 0), 9999);
        Due.is("law", Due.law(x, 0, "d-9000"), 1);
        Due.is("10059", x.waits(1000, 1, 999960, 0), 10059);
        Due.is("so much", x.waits(1000, 1, 999960, 1), 1059);
        x.window(0, 10);
        x.window(1, 3);
        Due.is("less share and fee", x.waits(1000, 1, 999960, 1), 1059 - 106 - 3);
        int[][] bad = {{-1, 1, 0, 0}, {10000, 1, 0, 0}, {1, 11, 0, 0}, {1, 4, 0, 0}, {1, -1, 0, 0}, {1, 1, -1, 0}, {1, 1, 61, 0}, {1, 1, 199, 0},
            {1, 1, 1000000, 0}, {1, 1, 0, -1}, {1, 1, 0, 2}, {1, 1, Integer.MIN_VALUE, 0}, {1, 1, Integer.MAX_VALUE, 0}};
        for (int[] b : bad) {
            Due.is("waits bad", x.waits(b[0], b[1], b[2], b[3]), -1);
        }
    }

    private static void swap() {
        CoinsOfLast x = new CoinsOfLast();
        x.sort(110, 0);
        x.sort(203, 0);
        x.sort(304, 0);
        x.purse(0, 2);
        x.purse(1, 3);
        Due.is("it can be paid as it is", x.swap(20006, 0), -5);
        Due.is("nothing can be paid as it is", x.swap(0, 0), -5);
        // 15 of land 2: 10 of land 1 goes for 3 of 3: 9; then 18 can be paid, 12 too, 15 too.
        Due.is("12 for one more", x.swap(20012, 0), 111);
        Due.is("15 for two more", x.swap(20015, 0), 112);
        Due.is("18 for three more", x.swap(20018, 0), 113);
        Due.is("21 would be seven", x.swap(20021, 0), -2);
        Due.is("8 of land 3: one for two", x.swap(30008, 0), 122);
        x.purse(0, 0);
        // 3 and 3 for 4; 3, 3 and 3 for two of 4.
        Due.is("4 of land 3: two for one", x.swap(30004, 0), 1221);
        Due.is("8 of land 3: three for two", x.swap(30008, 0), 1322);
        Due.is("12 of land 3: none", x.swap(30012, 0), -2);
        Due.is("law", Due.law(x, 0, "d"), 1);
        Due.is("9 at 1333 is 11", x.swap(30012, 1333), -2);
        Due.is("9 at 1334 is 12", x.swap(30012, 1334), 1323);
        Due.is("3 at 1333 is cut to 3", x.swap(30004, 1333), 1221);
        Due.is("3 at 1334 is 4", x.swap(30004, 1334), 1121);
        Due.is("the purse stays", x.of(1, 4), 3);
        Due.is("nothing of it is led", x.led(1), 0);
        x.sort(301, 0);
        x.purse(3, 2);
        x.purse(1, 0);
        // 1 and 1 can be paid; of one land, to have 4 for it there is too little.
        Due.is("no rate of a land for itself", x.swap(30004, 9999), -2);
        x.purse(2, 6);
        Due.is("4 for 1", x.swap(30003, 0), 2131);
        Due.is("4 for 1, three times", x.swap(30025, 0), -5);
        Due.is("four ones are left of 2 and 2", x.swap(30027, 0), -2);
        x.purse(3, 3);
        x.purse(2, 5);
        Due.is("2 times 4 and 6 ones", x.swap(30022, 0), -5);
        Due.is("away with one: nothing else", x.swap(30024, 0), -2);
    }

    private static void swapOrder() {
        CoinsOfLast x = new CoinsOfLast();
        for (int s = 0; s < 5; s++) {
            x.sort(105, 0);
        }
        x.purse(1, 2);
        x.purse(2, 2);
        // 3 coins given or had change nothing at 5 each: 20 is paid as it is, 25 never.
        Due.is("like worth brings nothing", x.swap(10025, 0), -2);
        CoinsOfLast y = new CoinsOfLast();
        y.sort(110, 0);
        y.sort(110, 0);
        y.sort(104, 0);
        y.sort(104, 0);
        y.sort(103, 0);
        y.purse(0, 3);
        y.purse(1, 3);
        // 64 = 6 * 10 + 4 can't come; 54 can: by one of 10, the least sort given, the least had.
        Due.is("the least sorts", y.swap(10054, 0), 121);
        Due.is("8 with two", y.swap(10008, 0), 122);
        Due.is("3", y.swap(10003, 0), 141);
        Due.is("6", y.swap(10006, 0), 142);
        Due.is("12: three for two tens", y.swap(10012, 0), 223);
        Due.is("9: three for one ten", y.swap(10009, 0), 143);
        y.purse(0, 0);
        Due.is("of the next sort then", y.swap(10004, 0), 1121);
        y.purse(2, 6);
        // 3 is had for one of 4 as well as for a ten: least sort given.
        Due.is("3 for a ten", y.swap(10003, 0), 1141);
        y.purse(1, 0);
        Due.is("3 for a 4", y.swap(10003, 0), 2141);
        Due.is("of like worth", y.swap(10027, 0), -2);
        Due.is("6 for two of 4", y.swap(10006, 0), 2242);
        CoinsOfLast z = new CoinsOfLast();
        z.sort(102, 0);
        z.sort(106, 0);
        z.purse(0, 6);
        // 14 by three of 2 for one 6 would be 12 again; nothing more than 12.
        Due.is("no gain", z.swap(10014, 0), -2);
        z.sort(210, 0);
        z.purse(2, 3);
        // 2 + 2 = 4 coins at most: one of 10 brings one of 6: 18.
        Due.is("18", z.swap(10018, 0), 2111);
        Due.is("24 wants two of 6", z.swap(10024, 0), 2212);
        Due.is("30 wants three of 6", z.swap(10030, 0), 2213);
        Due.is("5 of land 2 can't", z.swap(20005, 0), -2);
        Due.is("40 of land 2: six of 6 there is none", z.swap(20040, 0), -2);
        Due.is("law", Due.law(z, 0, "a=1?4000;1"), 1);
        // 2 is worth 8, 4 worth 16 of land 2; 5 of 2 are left.
        Due.is("40 of land 2 for three of 2", z.swap(20040, 0), 221);
        CoinsOfLast f = new CoinsOfLast();
        f.sort(104, 0);
        f.sort(101, 0);
        f.purse(0, 3);
        f.purse(1, 5);
        // 4 goes for 1, or 4 and 4 for 1: to come to 11 of 17: one 4 and six 1 are 10; 6 and 4 no.
        Due.is("10 with four tens", f.swap(10018, 0), -2);
        f.purse(1, 0);
        // 5 = 4 + 1 by one for one; 6 by one for two; 7 by one for three.
        Due.is("5", f.swap(10005, 0), 111);
        Due.is("6", f.swap(10006, 0), 112);
        Due.is("7", f.swap(10007, 0), 113);
        Due.is("3", f.swap(10003, 0), 113);
        Due.is("1", f.swap(10001, 0), 111);
    }

    private static void swapRefused() {
        CoinsOfLast x = new CoinsOfLast();
        x.sort(110, 0);
        x.sort(105, 0);
        x.purse(0, 6);
        int[][] bad = {{-1, 0}, {40000, 0}, {Integer.MAX_VALUE, 0}, {Integer.MIN_VALUE, 0}, {10005, -1}, {10005, 10000}};
        for (int[] b : bad) {
            Due.is("swap(" + b[0] + ", " + b[1] + ")", x.swap(b[0], b[1]), -1);
        }
        Due.is("swap", x.swap(10005, 9999), 111);
        Due.is("far too much", x.swap(19999, 0), -2);
        Due.is("bad ahead of what can be paid", x.swap(10010, 10000), -1);
    }

    private static void kept() {
        CoinsOfLast x = new CoinsOfLast();
        x.sort(110, 2030);
        x.sort(207, 530);
        x.sort(340, 9999);
        x.purse(0, 2);
        x.purse(1, 3);
        Due.is("without a text", x.kept(0), 41);
        Due.is("without a text", x.kept(60), 41);
        Due.is("the first of like years", x.kept(100), 0);
        Due.is("that", x.kept(101), 41);
        Due.is("years", Due.law(x, 1, "w+l*100+s*y"), 1);
        // 2 * (10 + 100 + 20y) + 3 * (7 + 200 + 5y)
        Due.is("year 0", x.kept(0), 841);
        Due.is("year 1", x.kept(1), 896);
        Due.is("year 60", x.kept(60), 841 + 55 * 60);
        Due.is("the best year", x.kept(100), 60);
        Due.is("that", x.kept(101), 841 + 55 * 60);
        Due.is("years", Due.law(x, 1, "a+b+d+y*(40-y)"), 1);
        Due.is("held at 0", x.kept(41), 0);
        Due.is("year 40", x.kept(40), 0);
        Due.is("the best year", x.kept(100), 20);
        Due.is("that", x.kept(101), 2000);
        Due.is("years", Due.law(x, 1, "9999*y"), 1);
        Due.is("held at 9999", x.kept(2), 49995);
        Due.is("the first of them", x.kept(100), 1);
        Due.is("that", x.kept(101), 49995);
        Due.is("years", Due.law(x, 1, "0;9"), 1);
        Due.is("the first line counts", x.kept(5), 0);
        for (int what : new int[] {-1, 61, 99, 102, Integer.MAX_VALUE, Integer.MIN_VALUE}) {
            Due.is("kept(" + what + ")", x.kept(what), -1);
        }
    }

    private static void heap() {
        CoinsOfLast x = new CoinsOfLast();
        Due.is("none of nothing", x.heap(0, 0, 0), 1);
        Due.is("one of nothing", x.heap(0, 1, 0), 0);
        x.sort(105, 10);
        Due.is("four of one sort", x.heap(10020, 4, 40), 1);
        Due.is("of another worth", x.heap(10021, 4, 40), 0);
        Due.is("of another weight", x.heap(10020, 4, 41), 0);
        Due.is("none", x.heap(10000, 0, 0), 1);
        Due.is("none of so much", x.heap(10001, 0, 0), 0);
        Due.is("none that weighs", x.heap(10000, 0, 1), 0);
        x.sort(105, 10);
        Due.is("of two like ones", x.heap(10020, 4, 40), 5);
        x.sort(205, 10);
        Due.is("not of another land", x.heap(10020, 4, 40), 5);
        x.sort(110, 5);
        x.sort(101, 15);
        // Four of 5, or one 10, one 1 and two of .. no: 10 + 1 + a + b = 20 can't be of 5.
        Due.is("four sorts", x.heap(10020, 4, 40), 5);
        Due.is("10 and 5: two ways", x.heap(10015, 2, 15), 2);
        Due.is("10, 1 and 5", x.heap(10016, 3, 30), 2);
        Due.is("20 of 40 sorts", x.heap(10200, 20, 100), 1);
        Due.is("most", x.heap(11200, 20, 1980), 0);
        CoinsOfLast y = new CoinsOfLast();
        for (int s = 0; s < 8; s++) {
            y.sort(340, 99);
        }
        Due.is("all heaps of 20 of 8 like ones", y.heap(30800, 20, 1980), 888030);
        Due.is("all heaps of 3 of 8 like ones", y.heap(30120, 3, 297), 120);
        Due.is("n 21", y.heap(30800, 21, 1980), -1);
        Due.is("n -1", y.heap(30800, -1, 1980), -1);
        Due.is("g 1981", y.heap(30800, 20, 1981), -1);
        Due.is("g -1", y.heap(30800, 20, -1), -1);
        Due.is("w 1201", y.heap(31201, 20, 0), -1);
        Due.is("w 1200", y.heap(31200, 20, 0), 0);
        Due.is("w 9999", y.heap(39999, 20, 0), -1);
        Due.is("land 4", y.heap(40000, 20, 0), -1);
        Due.is("lw -1", y.heap(-1, 20, 0), -1);
        CoinsOfLast z = new CoinsOfLast();
        z.sort(1, 0);
        z.sort(1, 1);
        z.sort(1, 2);
        // Ten coins that weigh 10: as many of weight 2 as of none.
        Due.is("by weights", z.heap(10, 10, 10), 6);
        Due.is("too heavy", z.heap(10, 10, 21), 0);
        Due.is("the heaviest", z.heap(10, 10, 20), 1);
    }

    private static void giveAndLed() {
        CoinsOfLast x = new CoinsOfLast();
        x.sort(110, 0);
        x.sort(203, 0);
        x.sort(101, 0);
        x.purse(0, 2);
        x.purse(1, 3);
        x.purse(2, 6);
        Due.is("land 4", x.give(4), -1);
        Due.is("land -1", x.give(-1), -1);
        Due.is("their worth", x.give(1), 26);
        Due.is("coins given", x.led(2), 8);
        Due.is("none any more", x.of(0, 4), 0);
        Due.is("none any more", x.of(2, 4), 0);
        Due.is("the others stay", x.of(1, 4), 3);
        Due.is("once more", x.give(1), 0);
        Due.is("coins given", x.led(2), 8);
        Due.is("the others", x.give(2), 9);
        Due.is("coins given", x.led(2), 11);
        Due.is("not lost", x.led(0), 0);
        Due.is("not spent", x.led(1), 0);
        Due.is("led 3", x.led(3), -1);
        Due.is("led -1", x.led(-1), -1);
    }

    private static void imageAndBack() {
        CoinsOfLast x = new CoinsOfLast();
        x.sort(110, 2020);
        x.sort(103, 2020);
        x.purse(0, 3);
        x.thing(1010, 55);
        x.rule(1, 1);
        Due.is("no image", x.back(), -5);
        Due.is("image", x.image(), 2);
        Due.is("buy", x.buy(0), 10);
        x.thing(1007, 72);
        Due.is("buy", x.buy(1), 10);
        x.sort(240, 0);
        x.purse(2, 6);
        x.purse(1, 4);
        x.give(1);
        x.mend(0, 0, 11);
        x.rule(1, 2);
        x.window(1, 9);
        Due.is("lost", x.led(0), 3);
        Due.is("spent", x.led(1), 20);
        Due.is("given", x.led(2), 5);
        Due.is("back: sorts that came stay", x.back(), 3);
        Due.is("purse", x.of(0, 4), 3);
        Due.is("purse", x.of(1, 4), 0);
        Due.is("none of a sort that came", x.of(2, 4), 0);
        Due.is("many", x.of(0, 13), 5);
        Due.is("many of a thing that came", x.of(1, 13), 1);
        Due.is("lost", x.led(0), 0);
        Due.is("spent", x.led(1), 0);
        Due.is("given", x.led(2), 0);
        Due.is("worth is not kept", x.of(0, 1), 11);
        Due.is("rule is not kept", x.of(1, 20), 2);
        Due.is("fee is not kept", x.window(1, 9), 9);
        Due.is("changes are not kept", x.count(4), 1);
        x.purse(0, 1);
        Due.is("back once more", x.back(), 3);
        Due.is("purse", x.of(0, 4), 3);
        x.purse(2, 5);
        x.give(1);
        Due.is("a later image", x.image(), 3);
        x.give(2);
        x.purse(0, 2);
        x.mend(1, 3, 5);
        x.mend(0, 0, 6);
        x.buy(1);
        Due.is("many", x.of(1, 13), 0);
        Due.is("back", x.back(), 3);
        Due.is("many", x.of(1, 13), 1);
        Due.is("purse", x.of(2, 4), 5);
        Due.is("purse", x.of(0, 4), 0);
        Due.is("given", x.led(2), 3);
    }

    private static void undoAndRedo() {
        CoinsOfLast x = new CoinsOfLast();
        x.sort(110, 2030);
        x.sort(220, 4050);
        x.thing(2060, 777);
        Due.is("none", x.undo(), -5);
        Due.is("none", x.redo(), -5);
        x.mend(0, 0, 11);
        x.mend(1, 1, 41);
        x.mend(0, 2, 31);
        x.mend(0, 3, 61);
        x.mend(0, 4, 78);
        x.mend(0, 0, 12);
        Due.is("none that may be done again", x.redo(), -5);
        Due.is("undo", x.undo(), 5);
        Due.is("worth", x.of(0, 1), 11);
        Due.is("undo", x.undo(), 4);
        Due.is("value", x.of(0, 12), 77);
        Due.is("undo", x.undo(), 3);
        Due.is("price", x.of(0, 11), 60);
        Due.is("undo", x.undo(), 2);
        Due.is("weight", x.of(0, 3), 30);
        Due.is("undo", x.undo(), 1);
        Due.is("size", x.of(1, 2), 40);
        Due.is("undo", x.undo(), 0);
        Due.is("worth", x.of(0, 1), 10);
        Due.is("none", x.undo(), -5);
        Due.is("changes", x.count(4), 0);
        Due.is("redo", x.redo(), 5);
        Due.is("worth", x.of(0, 1), 11);
        Due.is("redo", x.redo(), 4);
        Due.is("size", x.of(1, 2), 41);
        Due.is("redo", x.redo(), 3);
        Due.is("weight", x.of(0, 3), 31);
        Due.is("changes", x.count(4), 3);
        Due.is("telling the same is none", x.mend(0, 2, 31), 31);
        Due.is("nor a bad one", x.mend(0, 2, 100), -1);
        Due.is("redo", x.redo(), 2);
        Due.is("price", x.of(0, 11), 61);
        Due.is("one behind", x.mend(0, 4, 5), 77);
        Due.is("none that may be done again", x.redo(), -5);
        Due.is("undo", x.undo(), 4);
        Due.is("value", x.of(0, 12), 77);
        Due.is("redo", x.redo(), 0);
        Due.is("value", x.of(0, 12), 5);
        Due.is("none", x.redo(), -5);
    }

    private static void fortyChanges() {
        CoinsOfLast x = new CoinsOfLast();
        x.sort(101, 0);
        for (int n = 1; n <= 43; n++) {
            Due.is("mend", x.mend(0, 1, n), n - 1);
            Due.is("changes", x.count(4), Math.min(n, 40));
        }
        for (int n = 39; n >= 0; n--) {
            Due.is("undo", x.undo(), n);
            Due.is("size", x.of(0, 2), n + 3);
        }
        Due.is("none", x.undo(), -5);
        for (int n = 39; n >= 0; n--) {
            Due.is("redo", x.redo(), n);
            Due.is("size", x.of(0, 2), 43 - n);
        }
        Due.is("none", x.redo(), -5);
        x.undo();
        x.mend(0, 1, 99);
        Due.is("changes", x.count(4), 40);
        Due.is("undo", x.undo(), 39);
        Due.is("size", x.of(0, 2), 42);
    }

    /** 49 changes of eight sorts and things: the first nine are forgotten. */
    private static void fortyUnlikeChanges() {
        int[] first = {1, 0, 0, 1, 0};
        int[] of = {1, 2, 3, 11, 12};
        CoinsOfLast x = new CoinsOfLast();
        for (int n = 0; n < 8; n++) {
            x.sort(101, 0);
            x.thing(1001, 0);
        }
        for (int n = 0; n < 49; n++) {
            Due.is("mend " + n, x.mend(n % 8, n % 5, told(n)), n < 40 ? first[n % 5] : told(n - 40));
        }
        for (int n = 48; n >= 9; n--) {
            Due.is("undo", x.undo(), n - 9);
            Due.is("undone " + n, x.of(n % 8, of[n % 5]), n < 40 ? first[n % 5] : told(n - 40));
        }
        Due.is("none", x.undo(), -5);
        for (int n = 0; n < 40; n++) {
            Due.is("forgotten or undone " + n, x.of(n % 8, of[n % 5]), n < 9 ? told(n) : first[n % 5]);
        }
        for (int n = 9; n < 49; n++) {
            Due.is("redo", x.redo(), 48 - n);
            Due.is("done again " + n, x.of(n % 8, of[n % 5]), told(n));
        }
        Due.is("none", x.redo(), -5);
    }

    /** A number from 2 to 39 for the n-th change, another one for the 40th behind it. */
    private static int told(int n) {
        return 2 + n * 7 % 38;
    }
}
