/** Compares answers with what is due; the tests end through close(). */
final class Due {
    private static final int TOLD_MOST = 100;

    private static int wrong = 0;
    private static int asked = 0;
    private static int sentences = 0;
    private static String sentence = "";

    private Due() {
    }

    /** A call that takes one number that matters. */
    interface Call {
        long of(int v);
    }

    /** The sentence of the document that is tested from here on; what fails tells it. */
    static void says(String ofDocument) {
        sentence = "\"" + ofDocument + "\": ";
        sentences++;
    }

    static void is(String call, long got, long want) {
        asked++;
        if (got != want) {
            tell(call + " answered " + got + ", due is " + want);
        }
    }

    private static void isNot(String call, long got, long never) {
        asked++;
        if (got == never) {
            tell(call + " answered " + got + ", which is never due");
        }
    }

    private static void tell(String what) {
        wrong++;
        if (wrong <= TOLD_MOST) {
            System.out.println(sentence + what);
        }
    }

    /** Refused on either side of least .. most, and taken at both ends and beside them. */
    static void ends(String call, int least, int most, long refused, Call asks) {
        for (int v : new int[] {least - 1, most + 1}) {
            is(call + " of " + v, asks.of(v), refused);
        }
        for (int v : new int[] {least, Math.min(least + 1, most), Math.max(most - 1, least), most}) {
            isNot(call + " of " + v, asks.of(v), refused);
        }
    }

    /** As ends(), and refused at the ends of the ints, too. */
    static void range(String call, int least, int most, long refused, Call asks) {
        ends(call, least, most, refused, asks);
        for (int v : new int[] {Integer.MIN_VALUE, Integer.MIN_VALUE + 1, Integer.MAX_VALUE - 1, Integer.MAX_VALUE}) {
            is(call + " of " + v, asks.of(v), refused);
        }
    }

    static int asked() {
        return asked;
    }

    /** Coins of land 1: each pair a worth and how many the purse has. */
    static CoinsOfLast withCoins(int... pairs) {
        CoinsOfLast x = new CoinsOfLast();
        for (int s = 0; s < pairs.length; s += 2) {
            x.sort(100 + pairs[s], 0);
            x.purse(s / 2, pairs[s + 1]);
        }
        return x;
    }

    /** Feeds a text letter by letter. */
    static void tape(CoinsOfLast x, String text) {
        for (int i = 0; i < text.length(); i++) {
            x.feed(text.charAt(i));
        }
    }

    /** Feeds a text and makes it a law: what law() answers. */
    static int law(CoinsOfLast x, int which, String text) {
        tape(x, text);
        return x.law(which);
    }

    static void close() {
        String tested = sentences > 0 ? sentences + " sentences, " : "";
        System.out.println(tested + asked + " answers, " + wrong + " not as due");
        if (wrong != 0 || asked == 0) {
            System.exit(1);
        }
    }
}
