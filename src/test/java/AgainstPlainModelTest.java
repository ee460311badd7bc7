/** Long runs of calls whose answers are held against those of PlainModel. */
public final class AgainstPlainModelTest {
    // An object is used for at most 512 calls; one turn makes up to 160 of them.
    private static final int RUNS = 900, CALLS = 350;

    private static long seed = 20261118L;

    private static final String[] TEXTS = {
        "900+(a-b)*40+d%7*20", "a<b?900+d%50*7-0", "(a+1)*400+(b=2)*300+d%9*30", "d%3?700;1300", "a*b*d%900+600",
        "9999", "0", "w+l*10-y*y/9+s%3", "y>20?w*3;w-y/9+s%3", "w+y*(s<60)-y/4", "w*(60-y)*y/30", "-(!a|b&d>3)*-900",
        "y*y*y%97", "(b-a)%3?2000-d%5;400+d%11*100", "!(y%7)?w*2", "1000+d-d/2*2", "((a|b)=1)?3333;w+s+y+1",
    };

    private AgainstPlainModelTest() {
    }

    private static int below(int n) {
        seed = seed * 6364136223846793005L + 1442695040888963407L;
        return (int) ((seed >>> 33) % n);
    }

    /** Mostly 0 to n - 1, now and then a number out of it. */
    private static int near(int n) {
        int r = below(40);
        return r == 0 ? -1 : r == 1 ? n : r == 2 && below(4) == 0 ? Integer.MAX_VALUE - below(3)
            : r == 3 && below(4) == 0 ? Integer.MIN_VALUE + below(3) : below(n);
    }

    private static int la(PlainModel m, boolean small) {
        int land = near(4);
        int total = land >= 0 && land < 4 ? m.worthOf(land) : 0;
        int amount = below(8) == 0 ? below(10000) : below(total + (small ? 30 : 3));
        return land > 10 || land < 0 ? land : land * 10000 + amount;
    }

    private static int ab() {
        return below(20) == 0 ? near(60) : below(4) * 10 + below(4);
    }

    private static String text() {
        if (below(3) != 0) {
            return TEXTS[below(TEXTS.length)];
        }
        String signs = "abdwlsy0123456789()()!-+*/%<=>&|?;x ";
        StringBuilder made = new StringBuilder(TEXTS[below(TEXTS.length)]);
        for (int n = below(4); n >= 0; n--) {
            char sign = signs.charAt(below(signs.length()));
            int at = below(made.length() + 1);
            if (below(3) == 0 || at == made.length()) {
                made.insert(at, sign);
            } else if (below(2) == 0) {
                made.setCharAt(at, sign);
            } else {
                made.deleteCharAt(at);
            }
            if (made.length() == 0) {
                made.append('1');
            }
        }
        return made.toString();
    }

    public static void main(String[] args) {
        randomTexts();
        for (int run = 0; run < RUNS; run++) {
            run(run);
        }
        Due.close();
    }

    private static void randomTexts() {
        String signs = "ad19()!-+*<=&|?;";
        for (int n = 0; n < 20000; n++) {
            StringBuilder made = new StringBuilder();
            for (int i = below(14); i >= 0; i--) {
                made.append(signs.charAt(below(signs.length())));
            }
            String text = n % 2 == 0 ? made.toString() : text();
            CoinsOfLast x = new CoinsOfLast();
            int fault = PlainModel.fault(text);
            Due.is("law of " + text, Due.law(x, n % 2, text), fault < 0 ? 1 : -100 - fault);
        }
    }

    private static void run(int run) {
        CoinsOfLast x = new CoinsOfLast();
        PlainModel m = new PlainModel();
        int start = Due.asked();
        int lands = 1 + below(4);
        int dear = 1 + below(40);
        for (int s = below(9); s > 0; s--) {
            int lw = below(lands) * 100 + 1 + below(dear);
            int sw = below(2) == 0 ? below(10000) : (50 + below(6)) * 100 + 50 + below(6);
            Due.is("sort", x.sort(lw, sw), m.sort(lw, sw));
        }
        for (int s = 0; s < m.sorts.size(); s++) {
            int v = below(run % 3 == 0 ? 7 : 4);
            Due.is("purse", x.purse(s, v), m.purse(s, v));
        }
        for (int t = below(11); t > 0; t--) {
            int lp = below(lands) * 1000 + 1 + below(below(3) == 0 ? 200 : 40);
            int vm = below(100) * 10 + below(run % 3 == 0 ? 3 : 5);
            Due.is("thing", x.thing(lp, vm), m.thing(lp, vm));
        }
        while (Due.asked() - start < CALLS) {
            if (below(30) == 0) {
                String text = text();
                for (int i = 0; i < text.length() && m.tape.length() < 120; i++) {
                    Due.is("feed", x.feed(text.charAt(i)), m.tape.append(text.charAt(i)).length());
                }
                int which = near(2);
                Due.is("law(" + which + ") of " + m.tape, x.law(which), m.law(which));
            }
            one(run, x, m);
        }
    }

    private static void one(int run, CoinsOfLast x, PlainModel m) {
        int kind = below(26);
        if (kind < 9) {
            change(kind, x, m);
        } else if (kind < 17) {
            askPaying(kind, x, m);
        } else {
            askChanging(kind, x, m);
        }
        Due.is("run " + run + ": coins", x.count(2), m.sorts.stream().mapToInt(PlainModel.Sort::held).sum());
    }

    private static void change(int kind, CoinsOfLast x, PlainModel m) {
        int a;
        int b;
        int c;
        switch (kind) {
            case 0:
                a = near(Math.max(1, m.sorts.size()));
                b = near(7);
                Due.is("purse", x.purse(a, b), m.purse(a, b));
                break;
            case 1:
                c = near(5);
                a = near(8);
                b = below(10) == 0 ? near(201) : below(40);
                Due.is("mend", x.mend(a, c, b), m.mend(a, c, b));
                break;
            case 2:
                a = near(m.things.size() + 1);
                Due.is("buy(" + a + ")", x.buy(a), m.buy(a));
                break;
            case 3:
                a = below(3);
                b = below(4);
                Due.is("rule", x.rule(b, a), m.rules[b]);
                m.rules[b] = a;
                break;
            case 4:
                a = below(2);
                b = below(3) == 0 ? below(100) : below(5);
                Due.is("window", x.window(a, b), m.window[a]);
                m.window[a] = b;
                break;
            case 5:
                if (below(3) == 0) {
                    a = near(4);
                    Due.is("give", x.give(a), m.give(a));
                } else {
                    a = near(400);
                    b = near(10000);
                    Due.is("sort", x.sort(a, b), m.sort(a, b));
                }
                break;
            case 6:
                if (below(2) == 0) {
                    Due.is("image", x.image(), m.image());
                } else {
                    Due.is("back", x.back(), m.back());
                }
                break;
            case 7:
                Due.is("undo", x.undo(), m.undo());
                break;
            default:
                Due.is("redo", x.redo(), m.redo());
                break;
        }
    }

    private static void askPaying(int kind, CoinsOfLast x, PlainModel m) {
        int a = near(Math.max(1, m.sorts.size()));
        int land = near(4);
        int bit = near(2);
        int g = below(4) == 0 ? near(100) : below(9);
        int day = below(3) == 0 ? near(10000) : below(30);
        switch (kind) {
            case 9:
                for (int i = 0; i < 3; i++) {
                    Due.is("led", x.led(i), m.led[i]);
                }
                break;
            case 10: case 11: {
                int la = la(m, false);
                for (int sort = -1; sort <= m.sorts.size(); sort++) {
                    Due.is("paid(" + la + ", " + bit + ", " + sort + ")", x.paid(la, bit, sort), m.paid(la, bit, sort));
                }
                break;
            }
            case 12:
                Due.is("amounts", x.amounts(land, bit), m.amounts(land, bit));
                break;
            case 13:
                for (int what = 0; what < 3; what++) {
                    Due.is("spend(" + land + ", " + bit + ", " + what + ")", x.spend(land, bit, what), m.spend(land, bit, what));
                }
                break;
            case 14:
                Due.is("like", x.like(a, g), m.like(a, g));
                break;
            case 15:
                Due.is("standIn", x.standIn(a, g, day, bit), m.standIn(a, g, day, bit));
                break;
            default:
                for (int i = 0; i < m.sorts.size(); i++) {
                    Due.is("worth", x.of(i, 1), m.sorts.get(i).worth());
                    Due.is("held", x.of(i, 4), m.sorts.get(i).held());
                }
                for (int i = 0; i < m.things.size(); i++) {
                    Due.is("price", x.of(i, 11), m.things.get(i).price());
                    Due.is("many", x.of(i, 13), m.things.get(i).many());
                }
                break;
        }
    }

    private static void askChanging(int kind, CoinsOfLast x, PlainModel m) {
        int bit = near(2);
        int day = below(3) == 0 ? near(10000) : below(30);
        int amount = below(3) == 0 ? near(10000) : below(900);
        int ab = ab();
        int land = near(4);
        switch (kind) {
            case 17:
                Due.is("rate", x.rate(ab, day), m.rate(ab, day));
                break;
            case 18:
                Due.is("change", x.change(amount, ab, day), m.change(amount, ab, day));
                break;
            case 19:
                Due.is("way", x.way(amount, ab, day, bit), m.way(amount, ab, day, bit));
                break;
            case 20:
                Due.is("round", x.round(amount, land, day, bit), m.round(amount, land, day, bit));
                break;
            case 21: {
                int dn = below(3) == 0 ? near(1000000) : below(2000) * 100 + below(61);
                Due.is("waits", x.waits(amount, ab, dn, bit), m.waits(amount, ab, dn, bit));
                break;
            }
            case 22: case 23: {
                int la = la(m, true);
                Due.is("swap(" + la + ", " + day + ")", x.swap(la, day), m.swap(la, day));
                break;
            }
            case 24: {
                int what = below(2) == 0 ? near(61) : 100 + near(2);
                Due.is("kept(" + what + ")", x.kept(what), m.kept(what));
                break;
            }
            default: {
                int n = below(3) == 0 ? near(21) : below(9);
                int w = 0;
                int g = 0;
                for (int i = 0; i < n && n < 22 && !m.sorts.isEmpty(); i++) {
                    PlainModel.Sort s = m.sorts.get(below(m.sorts.size()));
                    w += s.land() == land ? s.worth() : m.sorts.get(0).worth();
                    g += s.land() == land ? s.weight() : m.sorts.get(0).weight();
                }
                int lw = land < 0 || land > 4 ? land : land * 10000 + w;
                Due.is("heap(" + lw + ", " + n + ", " + g + ")", x.heap(lw, n, g), m.heap(lw, n, g));
                break;
            }
        }
    }
}
