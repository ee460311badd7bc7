/** The boundary cases of promises 10 to 12, and of what section 1 of the terms says of texts. */
public final class EdgesTextsTest {
    private static final String HUGE = "2*1024*1024*1024";

    public static void main(String[] args) {
        feed();
        tapeOf120();
        faultsOf120();
        lines();
        chosenLines();
        wholesOfParts();
        likened();
        digits();
        names();
        bytesBehindANumber();
        bytesInBrackets();
        noBlanks();
        openOnes();
        openOnesInALongText();
        wraps();
        divided();
        oneOrNought();
        ranks();
        firstLineThatCounts();
        faults();
        law();
        lawTakesTheTape();
        rateHeld();
        rateOfALandForItself();
        rateDays();
        yearsHeld();
        namesOfRates();
        namesOfYears();
        Due.close();
    }

    private static String times(int n, String part) {
        StringBuilder all = new StringBuilder();
        for (int i = 0; i < n; i++) {
            all.append(part);
        }
        return all.toString();
    }

    /** Due is a fault at a place, as both laws. */
    private static void fault(String text, int place) {
        for (int which = 0; which < 2; which++) {
            Due.is("law(" + which + ") of " + text, Due.law(new CoinsOfLast(), which, text), -100 - place);
        }
    }

    private static void good(String text) {
        for (int which = 0; which < 2; which++) {
            Due.is("law(" + which + ") of " + text, Due.law(new CoinsOfLast(), which, text), 1);
        }
    }

    /** Due is what a text comes to for LANDS 1 and 2 on DAY 3; between 1 and 9999. */
    private static void comes(String text, int want) {
        CoinsOfLast x = new CoinsOfLast();
        Due.is("law of " + text, Due.law(x, 0, text), 1);
        Due.is(text, x.rate(12, 3), want);
    }

    /** Due is 0 or 1, which a rate can't tell; so 500 comes to it. */
    private static void isTrue(String text, boolean want) {
        comes("(" + text + ")+500", want ? 501 : 500);
    }

    private static void feed() {
        Due.says("A byte (0 .. 255) comes to THE TAPE: how many it has. BAD, FULL (120).");
        Due.range("feed", 0, 255, -1, letter -> new CoinsOfLast().feed(letter));
        CoinsOfLast x = new CoinsOfLast();
        Due.is("empty", x.count(3), 0);
        for (int n = 1; n <= 120; n++) {
            Due.is("feed " + n, x.feed(n % 2 == 0 ? 0 : 255), n);
            Due.is("tape", x.count(3), n);
        }
        Due.is("feed 121", x.feed('1'), -3);
        Due.is("feed 122", x.feed('1'), -3);
        Due.is("a bad one", x.feed(256), -1);
        Due.is("a bad one", x.feed(-1), -1);
        Due.is("tape", x.count(3), 120);
        Due.is("law", x.law(0), -100);
        Due.is("tape", x.count(3), 0);
        Due.is("feed", x.feed('1'), 1);
    }

    private static void tapeOf120() {
        Due.says("TEXTS by THE TAPE (at most 120 bytes)");
        comes(times(58, "1+") + "11", 69);
        comes(times(59, "1+") + "1", 60);
        comes(times(59, "1+") + "11", 70);
        CoinsOfLast x = new CoinsOfLast();
        Due.tape(x, times(59, "1+") + "11");
        Due.is("full", x.feed('9'), -3);
        Due.is("what did not come is no part of it", x.law(0), 1);
        Due.is("its rate", x.rate(1, 0), 70);
        comes(times(59, "1;") + "11", 1);
        comes(times(29, "0?1;") + "55;6", 55);
        comes(times(29, "0?1;") + "1?77", 77);
        comes(times(59, "0+") + "-5+" + "9", 1);
    }

    private static void faultsOf120() {
        Due.says("FAULT: the place (from 0) of the first byte with which no TEXT goes on; the length, if it ends too early.");
        fault(times(59, "1+") + "x", 118);
        fault(times(59, "1+") + "1x", 119);
        fault("1" + times(59, "1+") + "+", 119);
        fault(times(59, "1+"), 118);
        fault("1" + times(59, "1+"), 119);
        fault(times(60, "1+"), 120);
        fault("(" + times(58, "1+") + "11", 119);
        fault("(" + times(59, "1+") + "1", 120);
        fault("11" + times(58, "+1") + "+(", 120);
        fault(times(58, "1+") + "1;1?", 120);
    }

    private static void lines() {
        Due.says("LINES, one or more, parted by ;");
        fault("", 0);
        good("1");
        good("1;2");
        fault(";", 0);
        fault(";1", 0);
        fault("1;", 2);
        fault("1;;2", 2);
        fault("1;2;", 4);
        fault("1?2;", 4);
        fault("1?;2", 2);
        good("1;2;3");
        good("1?2;1?2;1?2");
        good(times(59, "7;") + "7");
        fault(times(60, "7;"), 120);
    }

    private static void chosenLines() {
        Due.says("LINE: E, or E ? E (what counts if the first is not 0).");
        comes("1?7;9", 7);
        comes("0?7;9", 9);
        comes("-1?7;9", 7);
        comes("2?7;9", 7);
        comes(HUGE + "?7;9", 7);
        comes(HUGE + "*2?7;9", 9);
        comes("1-1?7;9", 9);
        comes("1|1?7;9", 7);
        fault("?1", 0);
        fault("1?", 2);
        fault("1?2?3", 3);
        fault("(1?2)", 2);
    }

    private static void wholesOfParts() {
        Due.says("E = A { | A }. A = B { & B }. B = S, or S < S, S = S, S > S. S = P { + P, - P }. P = O { * O, / O, % O }.");
        for (char sign : "|&+-*/%".toCharArray()) {
            good("a" + sign + "b");
            good("a" + sign + "b" + sign + "d");
            fault("a" + sign, 2);
            fault("a" + sign + "b" + sign, 4);
            fault("a" + sign + ";", 2);
            fault("a" + sign + "*", 2);
            if (sign != '-') {
                fault("" + sign, 0);
                fault(sign + "a", 0);
                fault("a" + sign + sign, 2);
            }
        }
    }

    private static void likened() {
        Due.says("B = S, or S < S, S = S, S > S.");
        for (char sign : "<=>".toCharArray()) {
            good("a" + sign + "b");
            fault("a" + sign, 2);
            fault(sign + "a", 0);
            for (char other : "<=>".toCharArray()) {
                fault("a" + sign + other + "b", 2);
                fault("a" + sign + "b" + other + "d", 3);
                fault("a+1" + sign + "b*2" + other + "d", 7);
                fault("(a" + sign + "b" + other + "d)", 4);
                good("a" + sign + "b&a" + other + "b");
                good("a" + sign + "b|a" + other + "b");
                good("(a" + sign + "b)" + other + "d");
                good("a" + sign + "(b" + other + "d)");
                good("a" + sign + "b?a" + other + "b;a" + sign + "b");
            }
        }
    }

    private static void digits() {
        Due.says("O = a number (1 to 4 digits)");
        comes("1", 1);
        comes("9", 9);
        comes("10", 10);
        comes("999", 999);
        comes("1000", 1000);
        comes("9998", 9998);
        comes("9999", 9999);
        comes("0009", 9);
        comes("0000+8", 8);
        fault("12345", 4);
        fault("00000", 4);
        fault("00009", 4);
        fault("99999", 4);
        fault("123456", 4);
        fault("1+12345", 6);
        fault("(12345)", 5);
        fault("12345x", 4);
        fault("/", 0);
        fault(":", 0);
    }

    private static void names() {
        Due.says("O = a number (1 to 4 digits), a NAME, ! O, - O, ( E ).");
        for (int letter = 0; letter < 256; letter++) {
            String text = "" + (char) letter;
            if ("0123456789abdwlsy".indexOf(letter) >= 0) {
                good(text);
                good("1+" + text);
                good("(" + text + ")");
            } else if ("!-(".indexOf(letter) >= 0) {
                fault(text, 1);
                fault("1+" + text, 3);
                fault("(" + text, 2);
            } else {
                fault(text, 0);
                fault("1+" + text, 2);
                fault("(" + text, 1);
            }
        }
    }

    private static void bytesBehindANumber() {
        Due.says("FAULT: the place (from 0) of the first byte with which no TEXT goes on");
        for (int letter = 0; letter < 256; letter++) {
            String one = "" + (char) letter;
            boolean digit = letter >= '0' && letter <= '9';
            if (digit) {
                good("1" + one);
                fault("1234" + one, 4);
            } else if ("|&<=>+-*/%?;".indexOf(letter) >= 0) {
                fault("1" + one, 2);
                fault("1234" + one, 5);
                fault("a" + one, 2);
                fault("(1)" + one, 4);
                continue;
            } else {
                fault("1" + one, 1);
                fault("1234" + one, 4);
            }
            fault("a" + one, 1);
            fault("(1)" + one, 3);
        }
    }

    private static void bytesInBrackets() {
        Due.says("FAULT: the place (from 0) of the first byte with which no TEXT goes on");
        for (int letter = 0; letter < 256; letter++) {
            String one = "" + (char) letter;
            if (letter == ')') {
                good("(1" + one);
                fault("((1)" + one + one, 5);
            } else if (letter >= '0' && letter <= '9' || "|&<=>+-*/%".indexOf(letter) >= 0) {
                fault("(1" + one, 3);
            } else {
                fault("(1" + one, 2);
            }
        }
    }

    private static void noBlanks() {
        Due.says("No blanks.");
        String text = "a<b?(d+12)*2;-!3";
        good(text);
        for (int place = 0; place <= text.length(); place++) {
            for (char blank : " \t\n\r".toCharArray()) {
                fault(text.substring(0, place) + blank + text.substring(place), place);
            }
        }
    }

    private static void openOnes() {
        Due.says("At most 6 of ( ! - ahead of an O are open at once.");
        for (char sign : "!-".toCharArray()) {
            good(times(5, "" + sign) + "1");
            good(times(6, "" + sign) + "1");
            fault(times(7, "" + sign) + "1", 6);
            fault(times(8, "" + sign) + "1", 6);
            fault(times(6, "" + sign), 6);
            fault(times(6, "" + sign) + "(1)", 6);
            good(times(5, "" + sign) + "(1)");
        }
        good("(((((1)))))");
        good("((((((1))))))");
        fault("(((((((1)))))))", 6);
        fault("((((((!1))))))", 6);
        fault("((((((-1))))))", 6);
        good("(((((!1)))))");
        good("(((((-1)))))");
        good("(!-(!-1))");
        fault("(!-(!-(1)))", 6);
        fault("(!-(!-!1))", 6);
        fault("(!-(!--1))", 6);
        good("(!-(!-1-1))");
        good("((((((1-1))))))");
        fault("((((((1--1))))))", 8);
        fault("((((((1-!1))))))", 8);
        fault("((((((1*(1))))))", 8);
    }

    private static void openOnesInALongText() {
        Due.says("At most 6 of ( ! - ahead of an O are open at once.");
        String six = "((((((1))))))";
        good(six + "+" + six + "*" + six);
        good(six + "?" + six + ";" + six);
        good(six + "=" + six + "&" + six + "|" + six);
        fault(six + "+(" + six + ")", 20);
        fault(six + "?(" + six + ")", 20);
        fault(six + ";(" + six + ")", 20);
        good("!!!!!!1-------1");
        fault("!!!!!!1--------1", 14);
        good("(((((1)+(1)-(1)*(1)))))");
        fault("((((((1)+(1)-((1)))))))", 14);
        good("(((((!1+!1-!1*-1)))))");
        fault("(((((!1+!1-!!1)))))", 12);
        good("-(-(-(1)))");
        good("(-(-(-1)))");
        fault("(-(-(-(1))))", 6);
        good("!(1)+!(1)+!(1)+!(1)+!(1)+!(1)+!(1)");
        good("-1+-1+-1+-1+-1+-1+-1+-1");
        comes("((((((1+2)*3)*2)*2)*2)*2)", 144);
        comes("9-(8-(7-(6-(5-(4-(3))))))", 6);
        comes("------7", 7);
        comes("!!!!!!7+500", 501);
        comes("!!!!!7+500", 500);
    }

    private static void wraps() {
        Due.says("Ints that wrap; / and % toward 0, by 0 they give 0");
        isTrue(HUGE + "<0", true);
        isTrue(HUGE + "-1>0", true);
        isTrue(HUGE + "-1+1<0", true);
        isTrue("(" + HUGE + "-1)+1=" + HUGE, true);
        isTrue("-(" + HUGE + ")=" + HUGE, true);
        isTrue("-(" + HUGE + ")<0", true);
        isTrue("-(" + HUGE + "-1)<0", true);
        isTrue("-(" + HUGE + "-1)-1=" + HUGE, true);
        isTrue("-(" + HUGE + "-1)-2>0", true);
        isTrue(HUGE + "*2=0", true);
        isTrue("-1*(" + HUGE + ")=" + HUGE, true);
        isTrue("(" + HUGE + ")-1=-1-(" + HUGE + ")", true);
        // 99980001 * 21 = 2099580021 and 99980001 * 22 = 2199560022, which is -2095407274.
        comes("9999*9999*21/1000/1000", 2099);
        comes("9999*9999*22/-1000/1000", 2095);
    }

    private static void divided() {
        Due.says("/ and % toward 0, by 0 they give 0");
        comes("7/2", 3);
        comes("8/2", 4);
        comes("9/2", 4);
        comes("-7/2+9", 6);
        comes("-8/2+9", 5);
        comes("7/-2+9", 6);
        comes("-7/-2", 3);
        comes("1/2+9", 9);
        comes("-1/2+9", 9);
        comes("7%4", 3);
        comes("8%4+9", 9);
        comes("-7%4+9", 6);
        comes("7%-4", 3);
        comes("-7%-4+9", 6);
        comes("-1%2+9", 8);
        for (String what : new String[] {"7", "-7", "0", "(" + HUGE + ")"}) {
            comes(what + "/0+9", 9);
            comes(what + "%0+9", 9);
            comes(what + "/(1-1)+9", 9);
            comes(what + "%1+9", 9);
            comes(what + "%-1+9", 9);
        }
        comes("7/1", 7);
        comes("-7/-1", 7);
        isTrue("(" + HUGE + ")/-1=" + HUGE, true);
        isTrue("(" + HUGE + "-1)/-1=-(" + HUGE + ")+1", true);
        isTrue("(" + HUGE + ")/1=" + HUGE, true);
        isTrue("(" + HUGE + ")%-1=0", true);
        comes("1/0?7;5", 5);
        comes("1%0?7;5", 5);
    }

    private static void oneOrNought() {
        Due.says("| & < = > ! give 1, 0");
        for (int a = -2; a <= 2; a++) {
            String first = "(" + a + ")";
            comes("!" + first + "+500", a == 0 ? 501 : 500);
            for (int b = -2; b <= 2; b++) {
                String second = "(" + b + ")";
                isTrue(first + "|" + second, a != 0 || b != 0);
                isTrue(first + "&" + second, a != 0 && b != 0);
                isTrue(first + "<" + second, a < b);
                isTrue(first + "=" + second, a == b);
                isTrue(first + ">" + second, a > b);
            }
        }
        isTrue(HUGE + "<" + HUGE + "-1", true);
        isTrue(HUGE + "-1>" + HUGE, true);
        isTrue(HUGE + "=" + HUGE + "-1", false);
        isTrue("!(" + HUGE + ")", false);
        isTrue("(" + HUGE + ")&(" + HUGE + ")", true);
    }

    private static void ranks() {
        Due.says("E = A { | A }. A = B { & B }. B = S, or S < S, S = S, S > S. S = P { + P, - P }. P = O { * O, / O, % O }.");
        isTrue("1|0&0", true);
        isTrue("0&0|1", true);
        isTrue("0&(0|1)", false);
        isTrue("2&2=2", true);
        isTrue("2=2&2", true);
        isTrue("(2&2)=2", false);
        isTrue("3=1+2", true);
        isTrue("1+2=3", true);
        isTrue("1+(2=3)", true);
        comes("2+3*4", 14);
        comes("2*3+4", 10);
        comes("20-8-4", 8);
        comes("20-(8-4)", 16);
        comes("20-8+4", 16);
        comes("80/8/2", 5);
        comes("80/8*2", 20);
        comes("80*8%6", 4);
        comes("80%6*8", 16);
        comes("9-7%4", 6);
        comes("-2*-3", 6);
        comes("!0*5", 5);
        comes("!(0*5)+8", 9);
        comes("-3+9", 6);
        comes("9--3", 12);
        comes("9-!3", 9);
        comes("9-!!3", 8);
    }

    private static void firstLineThatCounts() {
        Due.says("The first LINE without a first E, or whose first E is not 0, counts; none: 0.");
        comes("7", 7);
        comes("7;8", 7);
        comes("7;1?8", 7);
        comes("1?7;8", 7);
        comes("0?7;8", 8);
        comes("0?7;0?8;9", 9);
        comes("0?7;1?8;9", 8);
        comes("0?7;2?8;1?9", 8);
        comes("0;8", 1);
        comes("1?0;8", 1);
        CoinsOfLast x = new CoinsOfLast();
        x.sort(105, 0);
        x.purse(0, 1);
        Due.is("law", Due.law(x, 1, "0?7"), 1);
        Due.is("none: 0", x.kept(0), 0);
        Due.is("law", Due.law(x, 1, "0?7;y?8"), 1);
        Due.is("none: 0", x.kept(0), 0);
        Due.is("the second", x.kept(1), 8);
        // Nothing of a longer text stays behind a shorter one of which no line counts.
        Due.is("law", Due.law(x, 1, "0?1;0?2;3"), 1);
        Due.is("the third", x.kept(0), 3);
        Due.is("law", Due.law(x, 1, "0?7"), 1);
        Due.is("none: 0", x.kept(0), 0);
        Due.is("law", Due.law(x, 0, "0?1;0?2;3"), 1);
        Due.is("the third", x.rate(1, 0), 3);
        Due.is("law", Due.law(x, 0, "0?7"), 1);
        Due.is("none: 0, held at 1", x.rate(1, 0), 1);
        Due.is("a fault behind a line", Due.law(x, 0, "5;"), -102);
        Due.is("none: 0, held at 1", x.rate(1, 0), 1);
    }

    private static void faults() {
        Due.says("FAULT: the place (from 0) of the first byte with which no TEXT goes on; the length, if it ends too early.");
        fault("", 0);
        fault("x", 0);
        fault("1x", 1);
        fault("12x", 2);
        fault("-", 1);
        fault("(", 1);
        fault("(1", 2);
        fault("((1)", 4);
        fault("1)", 1);
        fault("(1))", 3);
        fault("()", 1);
        fault("(a;b)", 2);
        fault("a b", 1);
        fault("x+", 0);
        fault("1+x+", 2);
        fault("a!", 1);
        fault("a(", 1);
        fault("!", 1);
        fault("!a!", 2);
        fault("a,b", 1);
        fault("a==b", 2);
        fault("a<=b", 2);
        fault("a&&b", 2);
        fault("a||b", 2);
        fault("ab", 1);
        fault("A", 0);
        fault("" + (char) 255, 0);
        fault("1" + (char) 255, 1);
        fault("" + (char) 0, 0);
        fault("1" + (char) 128, 1);
        // A byte above 127 is not the one that is 128 or 256 below it.
        fault("" + (char) ('1' + 128), 0);
        fault("1" + (char) (';' + 128) + "1", 1);
    }

    private static void law() {
        Due.says("THE TAPE becomes THE RATE (0), THE YEARS (1): 1; -100 less its FAULT; THE TAPE is empty then. BAD (it stays).");
        for (int which : new int[] {-1, 2, Integer.MIN_VALUE, Integer.MAX_VALUE}) {
            CoinsOfLast x = new CoinsOfLast();
            Due.is("law(" + which + ") of nothing", x.law(which), -1);
            Due.tape(x, "77");
            Due.is("law(" + which + ")", x.law(which), -1);
            Due.is("it stays", x.count(3), 2);
            Due.is("the rate is none yet", x.rate(1, 0), 1000);
            Due.is("feed", x.feed('8'), 3);
            Due.is("law(0)", x.law(0), 1);
            Due.is("rate", x.rate(1, 0), 778);
            Due.tape(x, "7+");
            Due.is("law(" + which + ") ahead of its fault", x.law(which), -1);
            Due.is("it stays", x.count(3), 2);
        }
    }

    private static void lawTakesTheTape() {
        Due.says("THE TAPE is empty then.");
        for (int which = 0; which < 2; which++) {
            CoinsOfLast x = new CoinsOfLast();
            Due.is("nothing", x.law(which), -100);
            Due.is("a text", Due.law(x, which, "12"), 1);
            Due.is("empty", x.count(3), 0);
            Due.is("a fault", Due.law(x, which, "1+"), -102);
            Due.is("empty", x.count(3), 0);
            Due.is("nothing again", x.law(which), -100);
            Due.is("feed", x.feed('5'), 1);
            Due.is("law", x.law(which), 1);
        }
        CoinsOfLast y = new CoinsOfLast();
        y.sort(105, 0);
        y.purse(0, 1);
        Due.is("the rate alone", Due.law(y, 0, "70"), 1);
        Due.is("no years yet", y.kept(0), 5);
        Due.is("the years", Due.law(y, 1, "80"), 1);
        Due.is("the rate", y.rate(1, 0), 70);
        Due.is("the years", y.kept(0), 80);
        Due.is("a fault of the rate", Due.law(y, 0, "71;"), -103);
        Due.is("a fault of the years", Due.law(y, 1, "81x"), -102);
        Due.is("the rate as before", y.rate(1, 0), 70);
        Due.is("the years as before", y.kept(0), 80);
    }

    private static void rateHeld() {
        Due.says("one of LAND a's comes to on a DAY (held within 1 .. 9999)");
        comes("0-9999", 1);
        comes("-1", 1);
        comes("0", 1);
        comes("1", 1);
        comes("2", 2);
        comes("9998", 9998);
        comes("9999", 9999);
        comes("9999+1", 9999);
        comes("9999*9999", 9999);
        comes(HUGE, 1);
        comes(HUGE + "-1", 9999);
    }

    private static void rateOfALandForItself() {
        Due.says("of a LAND for itself 1000, without a text 1000 too.");
        CoinsOfLast x = new CoinsOfLast();
        for (int a = 0; a < 4; a++) {
            for (int b = 0; b < 4; b++) {
                Due.is("without a text", x.rate(10 * a + b, 0), 1000);
                Due.is("without a text", x.rate(10 * a + b, 9999), 1000);
            }
        }
        Due.is("a fault is no text", Due.law(x, 0, "7+"), -102);
        Due.is("without a text", x.rate(1, 0), 1000);
        Due.is("the years are none", Due.law(x, 1, "7"), 1);
        Due.is("without a text", x.rate(1, 0), 1000);
        Due.is("law", Due.law(x, 0, "7"), 1);
        for (int a = 0; a < 4; a++) {
            for (int b = 0; b < 4; b++) {
                Due.is("by a text", x.rate(10 * a + b, 0), a == b ? 1000 : 7);
            }
        }
    }

    private static void rateDays() {
        Due.says("THE RATE (ab: 10 times a and b) on a DAY (0 .. 9999). BAD.");
        Due.range("rate", 0, 9999, -1, day -> new CoinsOfLast().rate(12, day));
        CoinsOfLast x = new CoinsOfLast();
        Due.law(x, 0, "d");
        Due.range("rate", 0, 9999, -1, day -> x.rate(12, day));
        for (int day : new int[] {1, 2, 9998, 9999}) {
            Due.is("rate", x.rate(12, day), day);
        }
        Due.is("rate of day 0", x.rate(12, 0), 1);
    }

    private static void yearsComes(String text, int want) {
        CoinsOfLast x = new CoinsOfLast();
        x.sort(340, 9987);
        x.purse(0, 1);
        Due.is("law of " + text, Due.law(x, 1, text), 1);
        Due.is(text, x.kept(60), want);
    }

    private static void yearsHeld() {
        Due.says("what a coin is worth when kept y years (held within 0 .. 9999)");
        yearsComes("0-9999", 0);
        yearsComes("-1", 0);
        yearsComes("0", 0);
        yearsComes("1", 1);
        yearsComes("9998", 9998);
        yearsComes("9999", 9999);
        yearsComes("9999+1", 9999);
        yearsComes(HUGE, 0);
        yearsComes(HUGE + "-1", 9999);
        Due.says("NAMES w WORTH, l LAND, s SIZE, y; without a text w.");
        yearsComes("w", 40);
        yearsComes("l", 3);
        yearsComes("s", 99);
        yearsComes("y", 60);
        CoinsOfLast x = new CoinsOfLast();
        x.sort(340, 9987);
        x.purse(0, 1);
        Due.is("without a text", x.kept(0), 40);
        Due.is("without a text", x.kept(60), 40);
        Due.is("a fault is no text", Due.law(x, 1, "7+"), -102);
        Due.is("without a text", x.kept(0), 40);
        Due.is("the rate is none", Due.law(x, 0, "7"), 1);
        Due.is("without a text", x.kept(0), 40);
    }

    private static void namesOfRates() {
        Due.says("(The others are 0.)");
        comes("a", 1);
        comes("b", 2);
        comes("d", 3);
        comes("5+w*1000+l*1000+s*1000+y*1000", 5);
        CoinsOfLast x = new CoinsOfLast();
        x.sort(340, 9987);
        x.purse(0, 6);
        Due.law(x, 1, "w");
        Due.is("kept", x.kept(60), 240);
        Due.law(x, 0, "5+w+l+s+y");
        Due.is("behind years the others are 0 still", x.rate(32, 77), 5);
    }

    private static void namesOfYears() {
        Due.says("(The others are 0.)");
        yearsComes("5+a*1000+b*1000+d*1000", 5);
        CoinsOfLast x = new CoinsOfLast();
        x.sort(340, 9987);
        x.purse(0, 1);
        Due.law(x, 0, "a*100+b*10+d");
        Due.is("rate", x.rate(32, 7), 327);
        Due.law(x, 1, "5+a+b+d");
        Due.is("behind a rate the others are 0 still", x.kept(60), 5);
    }
}
