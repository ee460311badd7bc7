/** Promises 1 to 12: coins, things, texts. */
public final class CoinsThingsTextsTest {
    public static void main(String[] args) {
        newObject();
        sort();
        sortsFromRows();
        sortsRefused();
        purse();
        thing();
        ruleAndWindow();
        mend();
        of();
        feed();
        lawFaults();
        lawStays();
        longTexts();
        rateValues();
        rateLinesAndBounds();
        Due.close();
    }

    private static void newObject() {
        CoinsOfLast x = new CoinsOfLast();
        for (int what = 0; what <= 6; what++) {
            Due.is("new count(" + what + ")", x.count(what), 0);
        }
        for (int land = 0; land < 4; land++) {
            Due.is("new of rule", x.of(land, 20), 0);
            Due.is("new of worth", x.of(land, 21), 0);
        }
        for (int what = 0; what < 3; what++) {
            Due.is("new led", x.led(what), 0);
        }
        for (int shelf = 0; shelf < 6; shelf++) {
            Due.is("new shelf", x.put(shelf, 0, 1), -11);
        }
        Due.is("new window share", x.window(0, 0), 0);
        Due.is("new window fee", x.window(1, 0), 0);
        Due.is("new rate", x.rate(3, 0), 1000);
        Due.is("new image", x.back(), -5);
        Due.is("new undo", x.undo(), -5);
        Due.is("new redo", x.redo(), -5);
        Due.is("new trace", x.trace(0), -1);
    }

    private static void sort() {
        CoinsOfLast x = new CoinsOfLast();
        int[][] bad = {{0, 0}, {41, 0}, {100, 0}, {141, 0}, {400, 0}, {401, 0}, {-1, 0}, {-60, 0}, {1, -1}, {1, 10000},
            {Integer.MAX_VALUE, 0}, {Integer.MIN_VALUE, 0}, {1, Integer.MAX_VALUE}, {1, Integer.MIN_VALUE}};
        for (int[] b : bad) {
            Due.is("sort(" + b[0] + ", " + b[1] + ")", x.sort(b[0], b[1]), -1);
        }
        Due.is("no sort came", x.count(0), 0);
        Due.is("sort", x.sort(340, 9900), 0);
        Due.is("sort", x.sort(1, 99), 1);
        for (int s = 2; s < 8; s++) {
            Due.is("sort", x.sort(101 + s, 100 * s + 2), s);
        }
        Due.is("sort full", x.sort(101, 0), -3);
        Due.is("sort bad ahead of full", x.sort(0, 0), -1);
        Due.is("sorts", x.count(0), 8);
        Due.is("land", x.of(0, 0), 3);
        Due.is("worth", x.of(0, 1), 40);
        Due.is("size", x.of(0, 2), 99);
        Due.is("weight", x.of(0, 3), 0);
        Due.is("none of it", x.of(0, 4), 0);
        Due.is("size", x.of(1, 2), 0);
        Due.is("weight", x.of(1, 3), 99);
    }

    private static void fill(CoinsOfLast x, int shelf, int... bytes) {
        x.row(shelf, 0, bytes.length);
        for (int i = 0; i < bytes.length; i++) {
            x.put(shelf, i, bytes[i]);
        }
    }

    private static void sortsFromRows() {
        CoinsOfLast x = new CoinsOfLast();
        fill(x, 2, 77, 1, 40, 99, 0, 3, 1, 0, 99, 2, 7, 8, 9, 0, 5);
        Due.is("missing row", x.sorts(0, 0, 8), 0);
        Due.is("n of them", x.sorts(2, 1, 2), 2);
        Due.is("sort 0 land", x.of(0, 0), 1);
        Due.is("sort 0 worth", x.of(0, 1), 40);
        Due.is("sort 0 size", x.of(0, 2), 99);
        Due.is("sort 0 weight", x.of(0, 3), 0);
        Due.is("sort 1 land", x.of(1, 0), 3);
        Due.is("ends within a four", x.sorts(2, 5, 8), 2);
        Due.is("sorts", x.count(0), 4);
        Due.is("sort 3 weight", x.of(3, 3), 9);
        Due.is("ends at once", x.sorts(2, 12, 1), 0);
        Due.is("the last whole four", x.sorts(2, 11, 1), 0);
        Due.is("at the end", x.sorts(2, 15, 1), 0);
        Due.is("far behind the end", x.sorts(2, Integer.MAX_VALUE, 8), 0);
        Due.is("ahead of the row", x.sorts(2, -1, 8), 0);
        Due.is("far ahead of the row", x.sorts(2, Integer.MIN_VALUE, 8), 0);
        fill(x, 3, 0, 1, 0, 0, 4, 1, 0, 0, 0, 1, 0, 0);
        Due.is("a land that is not so", x.sorts(3, 0, 3), 1);
        CoinsOfLast y = new CoinsOfLast();
        fill(y, 0, 0, 1, 0, 0, 3, 40, 99, 99);
        Due.is("just to the end", y.sorts(0, 0, 2), 2);
        Due.is("the last four", y.sorts(0, 4, 8), 1);
        Due.is("one place too far", y.sorts(0, 5, 8), 0);
        Due.is("the last place", y.sorts(0, 7, 1), 0);
        Due.is("sorts", y.count(0), 3);
        Due.is("its weight", y.of(2, 3), 99);
        fill(x, 3, 0, 41, 0, 0);
        Due.is("a worth that is not so", x.sorts(3, 0, 1), 0);
        fill(x, 3, 0, 0, 0, 0);
        Due.is("a worth of 0", x.sorts(3, 0, 1), 0);
        fill(x, 3, 0, 1, 100, 0);
        Due.is("a size that is not so", x.sorts(3, 0, 1), 0);
        fill(x, 3, 0, 1, 0, 100);
        Due.is("a weight that is not so", x.sorts(3, 0, 1), 0);
        fill(x, 3, 0, 1, 0, -1);
        Due.is("a weight below 0", x.sorts(3, 0, 1), 0);
        fill(x, 3, -1, 1, 0, 0);
        Due.is("a land below 0", x.sorts(3, 0, 1), 0);
        fill(x, 3, 0, 1, 0, 0, 0, 2, 0, 0, 0, 3, 0, 0, 0, 4, 0, 0);
        Due.is("till they are full", x.sorts(3, 0, 4), 3);
        Due.is("sorts", x.count(0), 8);
        Due.is("full at first", x.sorts(3, 0, 4), 0);
        Due.is("the last one", x.of(7, 1), 3);
        fill(x, 3);
        Due.is("an empty row", x.sorts(3, 0, 1), 0);
    }

    private static void sortsRefused() {
        CoinsOfLast x = new CoinsOfLast();
        x.body(0);
        x.keep(1, 0);
        x.row(2, 1, 8);
        x.row(3, 4, 8);
        Due.is("a deed", x.sorts(1, 0, 1), -12);
        Due.is("shorts", x.sorts(2, 0, 1), -12);
        Due.is("booleans", x.sorts(3, 0, 1), -12);
        Due.is("shelf 6", x.sorts(6, 0, 1), -1);
        Due.is("shelf -1", x.sorts(-1, 0, 1), -1);
        Due.is("n 0", x.sorts(1, 0, 0), -1);
        Due.is("n 9", x.sorts(1, 0, 9), -1);
        Due.is("n 8 of a deed", x.sorts(1, 0, 8), -12);
        Due.is("n 0 of nothing", x.sorts(0, 0, 0), -1);
    }

    private static void purse() {
        CoinsOfLast x = new CoinsOfLast();
        Due.is("no such sort", x.purse(0, 1), -1);
        x.sort(5, 0);
        Due.is("purse", x.purse(0, 6), 0);
        Due.is("purse", x.purse(0, 4), 6);
        Due.is("purse 7", x.purse(0, 7), -1);
        Due.is("purse -1", x.purse(0, -1), -1);
        Due.is("sort -1", x.purse(-1, 1), -1);
        Due.is("sort 1", x.purse(1, 1), -1);
        Due.is("as it was", x.purse(0, 0), 4);
        Due.is("of", x.of(0, 4), 0);
    }

    private static void thing() {
        CoinsOfLast x = new CoinsOfLast();
        int[][] bad = {{0, 0}, {201, 0}, {1000, 0}, {4000, 0}, {4001, 0}, {-1, 0}, {-999, 0}, {1, -1}, {1, 1000},
            {Integer.MAX_VALUE, 0}, {Integer.MIN_VALUE, 0}, {1, Integer.MAX_VALUE}, {1, Integer.MIN_VALUE}};
        for (int[] b : bad) {
            Due.is("thing(" + b[0] + ", " + b[1] + ")", x.thing(b[0], b[1]), -1);
        }
        Due.is("no thing came", x.count(1), 0);
        Due.is("thing", x.thing(3200, 999), 0);
        Due.is("thing", x.thing(1, 0), 1);
        for (int t = 2; t < 10; t++) {
            Due.is("thing", x.thing(2000 + t, 128), t);
        }
        Due.is("thing full", x.thing(1, 0), -3);
        Due.is("thing bad ahead of full", x.thing(0, 0), -1);
        Due.is("things", x.count(1), 10);
        Due.is("land", x.of(0, 10), 3);
        Due.is("price", x.of(0, 11), 200);
        Due.is("value", x.of(0, 12), 99);
        Due.is("many", x.of(0, 13), 9);
        Due.is("land", x.of(5, 10), 2);
        Due.is("price", x.of(5, 11), 5);
        Due.is("value", x.of(5, 12), 12);
        Due.is("many", x.of(5, 13), 8);
    }

    private static void ruleAndWindow() {
        CoinsOfLast x = new CoinsOfLast();
        Due.is("rule", x.rule(3, 2), 0);
        Due.is("rule", x.rule(3, 1), 2);
        Due.is("rule 3", x.rule(3, 3), -1);
        Due.is("rule -1", x.rule(3, -1), -1);
        Due.is("land 4", x.rule(4, 0), -1);
        Due.is("land -1", x.rule(-1, 0), -1);
        Due.is("of rule", x.of(3, 20), 1);
        Due.is("of other rule", x.of(2, 20), 0);
        Due.is("share", x.window(0, 99), 0);
        Due.is("fee", x.window(1, 98), 0);
        Due.is("share 100", x.window(0, 100), -1);
        Due.is("share -1", x.window(0, -1), -1);
        Due.is("what 2", x.window(2, 0), -1);
        Due.is("what -1", x.window(-1, 0), -1);
        Due.is("share was", x.window(0, 0), 99);
        Due.is("fee was", x.window(1, 0), 98);
    }

    private static void mend() {
        CoinsOfLast x = new CoinsOfLast();
        Due.is("no sort", x.mend(0, 0, 1), -1);
        Due.is("no thing", x.mend(0, 3, 1), -1);
        x.sort(110, 2030);
        x.thing(2050, 604);
        int[] was = {10, 20, 30, 50, 60};
        int[] least = {1, 0, 0, 1, 0};
        int[] most = {40, 99, 99, 200, 99};
        int[] of = {1, 2, 3, 11, 12};
        for (int what = 0; what < 5; what++) {
            Due.is("below", x.mend(0, what, least[what] - 1), -1);
            Due.is("above", x.mend(0, what, most[what] + 1), -1);
            Due.is("other number", x.mend(1, what, 5), -1);
            Due.is("number -1", x.mend(-1, what, 5), -1);
            Due.is("least", x.mend(0, what, least[what]), was[what]);
            Due.is("of", x.of(0, of[what]), least[what]);
            Due.is("most", x.mend(0, what, most[what]), least[what]);
            Due.is("of", x.of(0, of[what]), most[what]);
            Due.is("the same", x.mend(0, what, most[what]), most[what]);
            Due.is("changes", x.count(4), 2 * what + 2);
        }
        Due.is("what 5", x.mend(0, 5, 5), -1);
        Due.is("what -1", x.mend(0, -1, 5), -1);
        Due.is("land stays", x.of(0, 0), 1);
        Due.is("many stays", x.of(0, 13), 4);
    }

    private static void of() {
        CoinsOfLast x = new CoinsOfLast();
        x.sort(110, 2030);
        x.sort(103, 1);
        x.sort(240, 1);
        x.purse(0, 3);
        x.purse(1, 5);
        x.purse(2, 6);
        x.thing(2050, 604);
        int[] sort = {1, 10, 20, 30, 3};
        for (int what = 0; what < 5; what++) {
            Due.is("of sort", x.of(0, what), sort[what]);
            Due.is("of no sort", x.of(3, what), -1);
            Due.is("of sort -1", x.of(-1, what), -1);
        }
        int[] thing = {2, 50, 60, 4};
        for (int what = 0; what < 4; what++) {
            Due.is("of thing", x.of(0, 10 + what), thing[what]);
            Due.is("of no thing", x.of(1, 10 + what), -1);
            Due.is("of thing -1", x.of(-1, 10 + what), -1);
        }
        Due.is("worth of land 1", x.of(1, 21), 45);
        Due.is("worth of land 2", x.of(2, 21), 240);
        Due.is("worth of land 0", x.of(0, 21), 0);
        Due.is("land 4", x.of(4, 20), -1);
        Due.is("land 4", x.of(4, 21), -1);
        Due.is("land -1", x.of(-1, 21), -1);
        for (int what : new int[] {-1, 5, 9, 14, 19, 22, Integer.MAX_VALUE, Integer.MIN_VALUE}) {
            Due.is("of what " + what, x.of(0, what), -1);
        }
    }

    private static void feed() {
        CoinsOfLast x = new CoinsOfLast();
        Due.is("feed -1", x.feed(-1), -1);
        Due.is("feed 256", x.feed(256), -1);
        Due.is("feed 0", x.feed(0), 1);
        Due.is("feed 255", x.feed(255), 2);
        for (int n = 3; n <= 120; n++) {
            Due.is("feed", x.feed('1'), n);
        }
        Due.is("feed full", x.feed('1'), -3);
        Due.is("feed bad ahead of full", x.feed(256), -1);
        Due.is("tape", x.count(3), 120);
        Due.is("law", x.law(0), -100);
        Due.is("tape empty", x.count(3), 0);
    }

    private static void fault(String text, int place) {
        CoinsOfLast x = new CoinsOfLast();
        int want = place < 0 ? 1 : -100 - place;
        Due.is("law(0) of " + text, Due.law(x, 0, text), want);
        Due.is("tape behind " + text, x.count(3), 0);
        Due.is("law(1) of " + text, Due.law(x, 1, text), want);
    }

    private static void lawFaults() {
        String[] good = {"0", "9999", "a", "b", "d", "w", "l", "s", "y", "a?b", "a?b;d", "1;2;3", "a|b|d&w&l", "a<b&d>1|y=2",
            "a+b-d*1/2%3", "(a<b)<d", "!a<b", "!!!!!!1", "------1", "((((((1))))))", "(-(!(-1)))",
            "!a*-b", "1--1", "1-!-1", "(a)", "((((((1))))))+((((((1))))))", "1?((((((1))))))", "1;!!!!!!1?------1;((((((1))))))", "!(!(!(1)))-!(!(!(1)))"};
        for (String text : good) {
            fault(text, -1);
        }
        fault("", 0);
        fault("x", 0);
        fault("A", 0);
        fault(" 1", 0);
        fault("1 ", 1);
        fault(";", 0);
        fault("1;", 2);
        fault("1;;2", 2);
        fault("?1", 0);
        fault("1?", 2);
        fault("1?2?3", 3);
        fault("1?2;", 4);
        fault("a?b;d?w?s", 7);
        fault("12345", 4);
        fault("00000", 4);
        fault("1+12345", 6);
        fault("1a", 1);
        fault("ab", 1);
        fault("a1", 1);
        fault("a<b<d", 3);
        fault("a<b=d", 3);
        fault("a&b>d>1", 5);
        fault("a<b+1*2>3", 7);
        fault("(a<b>d)", 4);
        fault("a<", 2);
        fault("a<=b", 2);
        fault("a+", 2);
        fault("a+*b", 2);
        fault("*a", 0);
        fault("+a", 0);
        fault("a!b", 1);
        fault("(", 1);
        fault("()", 1);
        fault("(a", 2);
        fault("(a;", 2);
        fault("(a?b)", 2);
        fault("a)", 1);
        fault("(a))", 3);
        fault("(a)(b)", 3);
        fault("(a)b", 3);
        fault("!!!!!!!1", 6);
        fault("-------1", 6);
        fault("((((((((1", 6);
        fault("(!-(!-(1", 6);
        fault("(!-(!-!1", 6);
        fault("((((((1)))))", 12);
        fault("1?-------1", 8);
        fault("1;(((((((1", 8);
        fault("((((((1))))))+(((((((1", 20);
        fault("a|", 2);
        fault("a||b", 2);
        fault("a&", 2);
        fault("" + (char) 200, 0);
        fault("1" + (char) 0, 1);
    }

    private static void lawStays() {
        CoinsOfLast x = new CoinsOfLast();
        Due.tape(x, "77");
        Due.is("law 2", x.law(2), -1);
        Due.is("law -1", x.law(-1), -1);
        Due.is("the tape stays", x.count(3), 2);
        Due.is("law", x.law(0), 1);
        Due.is("the tape is empty", x.count(3), 0);
        Due.is("rate", x.rate(1, 0), 77);
        Due.is("a fault", Due.law(x, 0, "78+"), -103);
        Due.is("the rate stays", x.rate(1, 0), 77);
        Due.is("years", Due.law(x, 1, "79"), 1);
        Due.is("the rate stays", x.rate(1, 0), 77);
        Due.is("another rate", Due.law(x, 0, "80"), 1);
        Due.is("rate", x.rate(1, 0), 80);
        x.sort(5, 0);
        x.purse(0, 1);
        Due.is("the years stay", x.kept(0), 79);
    }

    private static void longTexts() {
        CoinsOfLast x = new CoinsOfLast();
        StringBuilder longest = new StringBuilder("(d+1)");
        while (longest.length() < 118) {
            longest.append("+1");
        }
        Due.is("a text of 119 bytes", Due.law(x, 0, longest.toString()), 1);
        Due.is("its rate", x.rate(1, 100), 101 + (longest.length() - 5) / 2);
        StringBuilder lines = new StringBuilder();
        for (int n = 0; n < 29; n++) {
            lines.append("0?9;");
        }
        lines.append("55;6");
        Due.is("a text of 31 lines", Due.law(x, 0, lines.toString()), 1);
        Due.is("the first line that counts", x.rate(1, 0), 55);
        lines.setLength(0);
        for (int n = 0; n < 59; n++) {
            lines.append("7;");
        }
        Due.is("a line that lacks", Due.law(x, 0, lines.toString()), -218);
        lines.append("7");
        Due.is("a text of 60 lines", Due.law(x, 0, lines.toString()), 1);
        Due.is("its first line", x.rate(1, 0), 7);
    }

    private static void value(String text, int ab, int day, int want) {
        CoinsOfLast x = new CoinsOfLast();
        Due.is("law of " + text, Due.law(x, 0, text), 1);
        Due.is("rate by " + text, x.rate(ab, day), want);
    }

    private static void rateValues() {
        value("a*100+b*10+d", 31, 5, 315);
        value("a*100+b*10+d", 13, 9999, 9999);
        value("w+l+s+y+7", 12, 3, 7);
        value("2+3*4", 1, 0, 14);
        value("(2+3)*4", 1, 0, 20);
        value("20-3-4", 1, 0, 13);
        value("100/7/2", 1, 0, 7);
        value("100%7*3", 1, 0, 6);
        value("7-9/2", 1, 0, 3);
        value("(0-9)/2+100", 1, 0, 96);
        value("(0-9)%2+100", 1, 0, 99);
        value("9/0+5", 1, 0, 5);
        value("9%0+5", 1, 0, 5);
        value("-5+9", 1, 0, 4);
        value("-5*-5", 1, 0, 25);
        value("--5", 1, 0, 5);
        value("!0+1", 1, 0, 2);
        value("!7+1", 1, 0, 1);
        value("!!7+1", 1, 0, 2);
        value("!0*5+3", 1, 0, 8);
        value("(3<4)+(4<3)*10+(3<3)*100+5", 1, 0, 6);
        value("(3>4)+(4>3)*10+(3>3)*100+5", 1, 0, 15);
        value("(3=4)+(4=3)*10+(3=3)*100+5", 1, 0, 105);
        value("(5|0)+(0|5)*10+(0|0)*100+5", 1, 0, 16);
        value("(5&0)+(0&5)*10+(5&7)*100+5", 1, 0, 105);
        value("(1|0&0)+5", 1, 0, 6);
        value("(0&0|1)+5", 1, 0, 6);
        value("(1+1<3)+5", 1, 0, 6);
        value("(3<1+1)+5", 1, 0, 5);
        value("(2&3<1)+5", 1, 0, 5);
        // 99980001 * 22 wraps below 0, 99980001 * 43 wraps to 4172747.
        value("(9999*9999*22<0)*60", 1, 0, 60);
        value("9999*9999*43/1000", 1, 0, 4172);
        // 8000000000 wraps to -589934592.
        value("2000*2000*2000/-1000/1000", 1, 0, 589);
        value("0007", 1, 0, 7);
        // -2147483648 / -1 wraps to itself.
        value("(-(2*1024*1024*1024))/-1<0", 1, 0, 1);
        value("((2*1024*1024*1024)/-1<0)*50", 1, 0, 50);
        value("((2*1024*1024*1024)%-1=0)*50", 1, 0, 50);
    }

    private static void rateLinesAndBounds() {
        value("0?5;7", 1, 0, 7);
        value("1?5;7", 1, 0, 5);
        value("-1?5;7", 1, 0, 5);
        value("7;5", 1, 0, 7);
        value("0;5", 1, 0, 1);
        value("0?5", 1, 0, 1);
        value("d<10?100;d<20?200;300", 1, 9, 100);
        value("d<10?100;d<20?200;300", 1, 10, 200);
        value("d<10?100;d<20?200;300", 1, 20, 300);
        value("0-7", 1, 0, 1);
        value("0", 1, 0, 1);
        value("9999+1", 1, 0, 9999);
        value("9999", 1, 0, 9999);
        value("7", 11, 0, 1000);
        value("7", 0, 0, 1000);
        value("7", 33, 0, 1000);
        value("7", 3, 9999, 7);
        CoinsOfLast x = new CoinsOfLast();
        int[][] bad = {{-1, 0}, {4, 0}, {14, 0}, {34, 0}, {40, 0}, {Integer.MIN_VALUE, 0}, {Integer.MAX_VALUE, 0},
            {0, -1}, {0, 10000}, {1, Integer.MAX_VALUE}, {1, Integer.MIN_VALUE}, {-10, 0}};
        for (int[] b : bad) {
            Due.is("rate(" + b[0] + ", " + b[1] + ")", x.rate(b[0], b[1]), -1);
        }
        Due.is("rate without a text", x.rate(30, 9999), 1000);
    }
}
