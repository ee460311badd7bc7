import java.util.ArrayList;
import java.util.List;

/**
 * What the document says, done in the plainest way: all choices are tried, texts are worked out as they stand.
 * It holds no deeds and no shelves.
 */
final class PlainModel {
    record Sort(int land, int worth, int size, int weight, int held) {
        Sort with(int what, int v) {
            return new Sort(land, what == 0 ? v : worth, what == 1 ? v : size, what == 2 ? v : weight, what == 4 ? v : held);
        }
    }

    record Thing(int land, int price, int value, int many) {
        Thing with(int what, int v) {
            return new Thing(land, what == 3 ? v : price, what == 4 ? v : value, what == 5 ? v : many);
        }
    }

    record Change(int number, int what, int was, int became) {
    }

    final List<Sort> sorts = new ArrayList<>();
    final List<Thing> things = new ArrayList<>();
    final int[] rules = new int[4];
    final int[] window = new int[2];
    final int[] led = new int[3];
    final String[] laws = new String[2];
    StringBuilder tape = new StringBuilder();
    List<Change> undone = new ArrayList<>();
    List<Change> redone = new ArrayList<>();
    List<Sort> imageSorts;
    List<Thing> imageThings;
    int[] imageLed;

    // ---- texts

    private static final class Fault extends Exception {
        private static final long serialVersionUID = 1L;
    }

    /** Works out a text by the grammar; where it does not fit, a Fault is thrown. */
    private static final class Grammar {
        private final String text;
        private final int[] names;
        private int at = 0;

        Grammar(String text, int[] names) {
            this.text = text;
            this.names = names;
        }

        private char c() {
            return at < text.length() ? text.charAt(at) : (char) 0xFFFF;
        }

        int text() throws Fault {
            Integer counts = null;
            while (true) {
                int first = e(0);
                boolean chosen = c() == '?';
                int value = first;
                if (chosen) {
                    at++;
                    value = e(0);
                }
                if (counts == null && (!chosen || first != 0)) {
                    counts = value;
                }
                if (at == text.length()) {
                    return counts == null ? 0 : counts;
                }
                if (c() != ';') {
                    throw new Fault();
                }
                at++;
            }
        }

        private int e(int open) throws Fault {
            int v = a(open);
            while (c() == '|') {
                at++;
                int w = a(open);
                v = v != 0 || w != 0 ? 1 : 0;
            }
            return v;
        }

        private int a(int open) throws Fault {
            int v = b(open);
            while (c() == '&') {
                at++;
                int w = b(open);
                v = v != 0 && w != 0 ? 1 : 0;
            }
            return v;
        }

        private int b(int open) throws Fault {
            int v = s(open);
            char sign = c();
            if (sign == '<' || sign == '=' || sign == '>') {
                at++;
                int w = s(open);
                boolean is = sign == '<' ? v < w : sign == '=' ? v == w : v > w;
                return is ? 1 : 0;
            }
            return v;
        }

        private int s(int open) throws Fault {
            int v = p(open);
            while (c() == '+' || c() == '-') {
                char sign = c();
                at++;
                int w = p(open);
                v = sign == '+' ? v + w : v - w;
            }
            return v;
        }

        private int p(int open) throws Fault {
            int v = o(open);
            while (c() == '*' || c() == '/' || c() == '%') {
                char sign = c();
                at++;
                int w = o(open);
                v = sign == '*' ? v * w : w == 0 ? 0 : sign == '/' ? v / w : v % w;
            }
            return v;
        }

        private int o(int open) throws Fault {
            char sign = c();
            int name = "abdwlsy".indexOf(sign);
            if (name >= 0) {
                at++;
                return names[name];
            }
            if (sign >= '0' && sign <= '9') {
                int from = at;
                while (c() >= '0' && c() <= '9') {
                    at++;
                }
                if (at - from > 4) {
                    throw new Fault();
                }
                return Integer.parseInt(text.substring(from, at));
            }
            if (open == 6 || sign != '!' && sign != '-' && sign != '(') {
                throw new Fault();
            }
            at++;
            if (sign == '!') {
                return o(open + 1) == 0 ? 1 : 0;
            }
            if (sign == '-') {
                return -o(open + 1);
            }
            int v = e(open + 1);
            if (c() != ')') {
                throw new Fault();
            }
            at++;
            return v;
        }
    }

    static boolean isText(String text) {
        try {
            new Grammar(text, new int[7]).text();
            return true;
        } catch (Fault fault) {
            return false;
        }
    }

    /** Whether a text goes on with these bytes: some end makes it one. */
    static boolean goesOn(String start) {
        String closing = "";
        for (int n = 0; n <= 6; n++) {
            if (isText(start + closing) || isText(start + "0" + closing)) {
                return true;
            }
            closing += ")";
        }
        return false;
    }

    static int fault(String text) {
        if (isText(text)) {
            return -1;
        }
        for (int i = 0; i < text.length(); i++) {
            if (!goesOn(text.substring(0, i + 1))) {
                return i;
            }
        }
        return text.length();
    }

    private static int worked(String text, int... names) {
        try {
            return new Grammar(text, names).text();
        } catch (Fault fault) {
            throw new IllegalStateException(text);
        }
    }

    int law(int which) {
        if (which < 0 || which > 1) {
            return -1;
        }
        String text = tape.toString();
        tape = new StringBuilder();
        int fault = fault(text);
        if (fault >= 0) {
            return -100 - fault;
        }
        laws[which] = text;
        return 1;
    }

    int rateOf(int a, int b, int day) {
        if (a == b || laws[0] == null) {
            return 1000;
        }
        return Math.max(1, Math.min(9999, worked(laws[0], a, b, day, 0, 0, 0, 0)));
    }

    int rate(int ab, int day) {
        return isPair(ab) && isDay(day) ? rateOf(ab / 10, ab % 10, day) : -1;
    }

    // ---- what may be asked

    private static boolean isPair(int ab) {
        return ab >= 0 && ab / 10 < 4 && ab % 10 < 4;
    }

    private static boolean isDay(int day) {
        return day >= 0 && day <= 9999;
    }

    private static boolean isLand(int land) {
        return land >= 0 && land < 4;
    }

    private static boolean isX(int x) {
        return x >= 0 && x <= 9999;
    }

    private static boolean isBit(int what) {
        return what == 0 || what == 1;
    }

    private boolean isSort(int sort) {
        return sort >= 0 && sort < sorts.size();
    }

    private boolean isThing(int thing) {
        return thing >= 0 && thing < things.size();
    }

    // ---- coins and things

    int sort(int lw, int sw) {
        if (lw < 0 || lw / 100 > 3 || lw % 100 < 1 || lw % 100 > 40 || sw < 0 || sw > 9999) {
            return -1;
        }
        if (sorts.size() == 8) {
            return -3;
        }
        sorts.add(new Sort(lw / 100, lw % 100, sw / 100, sw % 100, 0));
        return sorts.size() - 1;
    }

    int purse(int sort, int v) {
        if (!isSort(sort) || v < 0 || v > 6) {
            return -1;
        }
        int was = sorts.get(sort).held();
        sorts.set(sort, sorts.get(sort).with(4, v));
        return was;
    }

    int thing(int lp, int vm) {
        if (lp < 0 || lp / 1000 > 3 || lp % 1000 < 1 || lp % 1000 > 200 || vm < 0 || vm > 999) {
            return -1;
        }
        if (things.size() == 10) {
            return -3;
        }
        things.add(new Thing(lp / 1000, lp % 1000, vm / 10, vm % 10));
        return things.size() - 1;
    }

    private int set(int number, int what, int v) {
        int was;
        if (what < 3) {
            Sort s = sorts.get(number);
            was = what == 0 ? s.worth() : what == 1 ? s.size() : s.weight();
            sorts.set(number, s.with(what, v));
        } else {
            Thing t = things.get(number);
            was = what == 3 ? t.price() : t.value();
            things.set(number, t.with(what, v));
        }
        return was;
    }

    int mend(int number, int what, int v) {
        boolean good = switch (what) {
            case 0 -> isSort(number) && v >= 1 && v <= 40;
            case 1, 2 -> isSort(number) && v >= 0 && v <= 99;
            case 3 -> isThing(number) && v >= 1 && v <= 200;
            case 4 -> isThing(number) && v >= 0 && v <= 99;
            default -> false;
        };
        if (!good) {
            return -1;
        }
        int was = set(number, what, v);
        if (was != v) {
            undone.add(new Change(number, what, was, v));
            redone.clear();
            if (undone.size() > 40) {
                undone.remove(0);
            }
        }
        return was;
    }

    int undo() {
        if (undone.isEmpty()) {
            return -5;
        }
        Change c = undone.remove(undone.size() - 1);
        redone.add(c);
        set(c.number(), c.what(), c.was());
        return undone.size();
    }

    int redo() {
        if (redone.isEmpty()) {
            return -5;
        }
        Change c = redone.remove(redone.size() - 1);
        undone.add(c);
        set(c.number(), c.what(), c.became());
        return redone.size();
    }

    // ---- paying, by all choices

    /** All rows of numbers of coins of a land that come to the amount; the best one by the rules of PAID. */
    private int[] payment(int land, int amount, boolean most) {
        int[][] best = new int[1][];
        choose(land, 0, amount, new int[sorts.size()], most, best);
        return best[0];
    }

    private static int sum(int[] row) {
        int sum = 0;
        for (int v : row) {
            sum += v;
        }
        return sum;
    }

    private void choose(int land, int s, int left, int[] row, boolean most, int[][] best) {
        if (left < 0) {
            return;
        }
        if (s == row.length) {
            if (left == 0 && (best[0] == null || better(row, best[0], most))) {
                best[0] = row.clone();
            }
            return;
        }
        int number = sorts.get(s).land() == land ? sorts.get(s).held() : 0;
        for (int c = 0; c <= number; c++) {
            row[s] = c;
            choose(land, s + 1, left - c * sorts.get(s).worth(), row, most, best);
        }
        row[s] = 0;
    }

    private static boolean better(int[] row, int[] than, boolean most) {
        if (sum(row) != sum(than)) {
            return most ? sum(row) > sum(than) : sum(row) < sum(than);
        }
        for (int s = 0; s < row.length; s++) {
            if (row[s] != than[s]) {
                return row[s] > than[s];
            }
        }
        return false;
    }

    /** canPay(land)[amount] for all amounts to 2000, with numbers of coins that may differ from the purse's. */
    private boolean[] canPay(int land, int[] held) {
        boolean[] can = new boolean[10001];
        can[0] = true;
        for (int s = 0; s < held.length; s++) {
            for (int c = 0; sorts.get(s).land() == land && c < held[s]; c++) {
                for (int amount = 10000; amount >= sorts.get(s).worth(); amount--) {
                    can[amount] |= can[amount - sorts.get(s).worth()];
                }
            }
        }
        return can;
    }

    private int[] held() {
        int[] held = new int[sorts.size()];
        for (int s = 0; s < held.length; s++) {
            held[s] = sorts.get(s).held();
        }
        return held;
    }

    int worthOf(int land) {
        int sum = 0;
        for (Sort s : sorts) {
            sum += s.land() == land ? s.worth() * s.held() : 0;
        }
        return sum;
    }

    int paid(int la, int how, int sort) {
        if (la < 0 || la > 39999 || !isBit(how) || sort != -1 && !isSort(sort)) {
            return -1;
        }
        int[] row = payment(la / 10000, la % 10000, how == 1);
        return row == null ? -2 : sort == -1 ? sum(row) : row[sort];
    }

    int amounts(int land, int what) {
        if (!isLand(land) || !isBit(what)) {
            return -1;
        }
        boolean[] can = canPay(land, held());
        int number = 0;
        int gap = 0;
        for (int amount = 1; amount <= 10000; amount++) {
            number += can[amount] ? 1 : 0;
            gap = gap == 0 && !can[amount] ? amount : gap;
        }
        return what == 0 ? number : gap;
    }

    /** All choices of things: rows of left, value, prices. */
    private void basket(int land, int t, int value, int prices, boolean[] can, int total, List<int[]> found) {
        if (t == things.size()) {
            if (prices <= 10000 && can[prices]) {
                found.add(new int[] {total - prices, value, prices});
            }
            return;
        }
        Thing thing = things.get(t);
        int many = thing.land() == land ? thing.many() : 0;
        for (int m = 0; m <= many && prices + m * thing.price() <= total; m++) {
            basket(land, t + 1, value + m * thing.value(), prices + m * thing.price(), can, total, found);
        }
    }

    int spend(int land, int which, int what) {
        if (!isLand(land) || !isBit(which) || what < 0 || what > 2) {
            return -1;
        }
        List<int[]> found = new ArrayList<>();
        basket(land, 0, 0, 0, canPay(land, held()), worthOf(land), found);
        int[] best = found.get(0);
        for (int[] f : found) {
            boolean least = f[0] < best[0] || f[0] == best[0] && f[1] > best[1];
            boolean most = f[1] > best[1] || f[1] == best[1] && f[2] < best[2];
            if (which == 0 ? least : most) {
                best = f;
            }
        }
        return best[what];
    }

    int buy(int thing) {
        if (!isThing(thing)) {
            return -1;
        }
        Thing t = things.get(thing);
        if (t.many() == 0) {
            return -5;
        }
        int rule = rules[t.land()];
        int amount = t.price();
        int[] row = payment(t.land(), amount, true);
        while (rule != 0 && row == null && amount <= 2000) {
            amount++;
            row = payment(t.land(), amount, true);
        }
        if (row == null) {
            return -2;
        }
        for (int s = 0; s < row.length; s++) {
            sorts.set(s, sorts.get(s).with(4, sorts.get(s).held() - row[s]));
        }
        things.set(thing, t.with(5, t.many() - 1));
        int due = amount - t.price();
        int back = 0;
        while (rule == 2) {
            int greatest = -1;
            for (int s = 0; s < row.length; s++) {
                Sort c = sorts.get(s);
                if (c.land() == t.land() && c.held() < 6 && c.worth() <= due - back
                    && (greatest < 0 || c.worth() > sorts.get(greatest).worth())) {
                    greatest = s;
                }
            }
            if (greatest < 0) {
                break;
            }
            back += sorts.get(greatest).worth();
            sorts.set(greatest, sorts.get(greatest).with(4, sorts.get(greatest).held() + 1));
        }
        led[0] += due - back;
        led[1] += amount - back;
        return amount - back;
    }

    private boolean alike(Sort a, Sort b, int g) {
        return Math.abs(a.size() - b.size()) <= g && Math.abs(a.weight() - b.weight()) <= g;
    }

    int like(int sort, int g) {
        if (!isSort(sort) || g < 0 || g > 99) {
            return -1;
        }
        int bits = 0;
        for (int s = 0; s < sorts.size(); s++) {
            bits += alike(sorts.get(s), sorts.get(sort), g) ? 1 << s : 0;
        }
        return bits;
    }

    int standIn(int sort, int g, int day, int what) {
        if (!isSort(sort) || g < 0 || g > 99 || !isDay(day) || !isBit(what)) {
            return -2000000000;
        }
        Sort told = sorts.get(sort);
        int best = -1;
        long least = Long.MAX_VALUE;
        for (int s = 0; s < sorts.size(); s++) {
            Sort c = sorts.get(s);
            long worth = (long) c.worth() * rateOf(c.land(), told.land(), day) / 1000;
            if (s != sort && alike(c, told, g) && worth < least) {
                best = s;
                least = worth;
            }
        }
        return what == 0 || best < 0 ? best : (int) (told.worth() - least);
    }

    // ---- changing

    private long changed(long x, int a, int b, int day) {
        long all = x * rateOf(a, b, day) / 1000;
        long share = all * window[0] / 100 + (all * window[0] % 100 > 0 ? 1 : 0);
        return Math.max(0, all - share - window[1]);
    }

    int change(int x, int ab, int day) {
        return isX(x) && isPair(ab) && ab / 10 != ab % 10 && isDay(day) ? (int) changed(x, ab / 10, ab % 10, day) : -1;
    }

    /** All rows of lands, as digits, that go from a to b with no land twice (but for the first as the last of a round). */
    private static List<String> rows(int a, int b) {
        List<String> rows = new ArrayList<>();
        for (int number = 10; number < 100000; number++) {
            String row = Integer.toString(number);
            boolean good = row.charAt(0) == '1' + a && row.charAt(row.length() - 1) == '1' + b;
            good &= row.length() >= (a == b ? 3 : 2);
            for (int i = 0; i < row.length() && good; i++) {
                good = row.charAt(i) >= '1' && row.charAt(i) <= '4';
                for (int j = 0; j < i && good; j++) {
                    good = row.charAt(i) != row.charAt(j) || a == b && j == 0 && i == row.length() - 1;
                }
            }
            if (good) {
                rows.add(row);
            }
        }
        rows.sort(null);
        return rows;
    }

    private int along(int x, int a, int b, int day, int what) {
        long most = -1;
        String best = "";
        for (String row : rows(a, b)) {
            long becomes = x;
            for (int i = 1; i < row.length(); i++) {
                becomes = changed(becomes, row.charAt(i - 1) - '1', row.charAt(i) - '1', day + i - 1);
            }
            if (becomes > most) {
                most = becomes;
                best = row;
            }
        }
        return what == 0 ? (int) most : Integer.parseInt(best);
    }

    int way(int x, int ab, int day, int what) {
        boolean good = isX(x) && isPair(ab) && ab / 10 != ab % 10 && isDay(day) && isBit(what);
        return good ? along(x, ab / 10, ab % 10, day, what) : -1;
    }

    int round(int x, int a, int day, int what) {
        return isX(x) && isLand(a) && isDay(day) && isBit(what) ? along(x, a, a, day, what) : -1;
    }

    int waits(int x, int ab, int dn, int what) {
        boolean good = isX(x) && isPair(ab) && ab / 10 != ab % 10 && dn >= 0 && dn / 100 <= 9999 && dn % 100 <= 60 && isBit(what);
        if (!good) {
            return -1;
        }
        int best = dn / 100;
        for (int day = best; day <= dn / 100 + dn % 100; day++) {
            if (changed(x, ab / 10, ab % 10, day) > changed(x, ab / 10, ab % 10, best)) {
                best = day;
            }
        }
        return what == 0 ? best : (int) changed(x, ab / 10, ab % 10, best);
    }

    int swap(int la, int day) {
        if (la < 0 || la > 39999 || !isDay(day)) {
            return -1;
        }
        int land = la / 10000;
        if (canPay(land, held())[la % 10000]) {
            return -5;
        }
        int best = -2;
        int bestRank = Integer.MAX_VALUE;
        for (int digits = 111; digits <= 7373; digits++) {
            int given = digits / 1000;
            int n = digits / 100 % 10;
            int had = digits / 10 % 10;
            int m = digits % 10;
            if (n < 1 || n > 3 || m < 1 || m > 3 || !isSort(given) || !isSort(had) || given == had) {
                continue;
            }
            int[] then = held();
            then[given] -= n;
            then[had] += m;
            Sort g = sorts.get(given);
            Sort h = sorts.get(had);
            boolean fair = (long) n * g.worth() * rateOf(g.land(), h.land(), day) / 1000 >= m * h.worth();
            int rank = (n + m) * 1000 + given * 100 + had * 10 + n;
            if (then[given] >= 0 && then[had] <= 6 && fair && rank < bestRank && canPay(land, then)[la % 10000]) {
                best = digits;
                bestRank = rank;
            }
        }
        return best;
    }

    private int inYear(int y) {
        int sum = 0;
        for (Sort s : sorts) {
            int worth = laws[1] == null ? s.worth() : worked(laws[1], 0, 0, 0, s.worth(), s.land(), s.size(), y);
            sum += s.held() * Math.max(0, Math.min(9999, worth));
        }
        return sum;
    }

    int kept(int what) {
        if (what >= 0 && what <= 60) {
            return inYear(what);
        }
        if (what != 100 && what != 101) {
            return -1;
        }
        int best = 0;
        for (int y = 0; y <= 60; y++) {
            best = inYear(y) > inYear(best) ? y : best;
        }
        return what == 100 ? best : inYear(best);
    }

    private int heaps(int land, int s, int n, int w, int g) {
        if (n < 0 || w < 0 || g < 0) {
            return 0;
        }
        if (s == sorts.size()) {
            return n == 0 && w == 0 && g == 0 ? 1 : 0;
        }
        if (sorts.get(s).land() != land) {
            return heaps(land, s + 1, n, w, g);
        }
        int ways = 0;
        for (int c = 0; c <= n; c++) {
            ways += heaps(land, s + 1, n - c, w - c * sorts.get(s).worth(), g - c * sorts.get(s).weight());
        }
        return ways;
    }

    int heap(int lw, int n, int g) {
        boolean good = lw >= 0 && lw < 40000 && lw % 10000 <= 1200 && n >= 0 && n <= 20 && g >= 0 && g <= 1980;
        return good ? heaps(lw / 10000, 0, n, lw % 10000, g) : -1;
    }

    int give(int land) {
        if (!isLand(land)) {
            return -1;
        }
        int worth = worthOf(land);
        for (int s = 0; s < sorts.size(); s++) {
            if (sorts.get(s).land() == land) {
                led[2] += sorts.get(s).held();
                sorts.set(s, sorts.get(s).with(4, 0));
            }
        }
        return worth;
    }

    int image() {
        imageSorts = new ArrayList<>(sorts);
        imageThings = new ArrayList<>(things);
        imageLed = led.clone();
        return sorts.size();
    }

    int back() {
        if (imageSorts == null) {
            return -5;
        }
        for (int s = 0; s < sorts.size(); s++) {
            sorts.set(s, sorts.get(s).with(4, s < imageSorts.size() ? imageSorts.get(s).held() : 0));
        }
        for (int t = 0; t < imageThings.size(); t++) {
            things.set(t, things.get(t).with(5, imageThings.get(t).many()));
        }
        System.arraycopy(imageLed, 0, led, 0, 3);
        return sorts.size();
    }
}
