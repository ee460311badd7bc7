/** Compares answers with what is due; the tests end through close(). */
final class Due {
    private static int wrong = 0;
    private static int asked = 0;

    private Due() {
    }

    static void is(String call, long got, long want) {
        asked++;
        if (got != want) {
            wrong++;
            System.out.println(call + " answered " + got + ", due is " + want);
        }
    }

    static int asked() {
        return asked;
    }

    /** Feeds a text letter by letter. */
    static void tape(CoinsOfLast x, String text) {
        for (int i = 0; i < text.length(); i++) {
            x.feed(text.charAt(i));
        }
    }

    /** Feeds a text and makes it a law: what law() answers. */
    static int law(CoinsOfLast x, int which, String text) {
        tape(x, text);
        return x.law(which);
    }

    static void close() {
        System.out.println(asked + " answers, " + wrong + " not as due");
        if (wrong != 0 || asked == 0) {
            System.exit(1);
        }
    }
}
