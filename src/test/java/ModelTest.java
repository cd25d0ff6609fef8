import java.util.Random;

/** Long runs of calls, drawn from fixed seeds, on the program and on the model beside it. */
final class ModelTest {
    private static final int RUNS = 120;
    private static final int CALLS = 511;

    private final Random dice;
    private final SnowCourse x = new SnowCourse();
    private final Model m = new Model();
    private final StringBuilder log = new StringBuilder();
    private int calls = 0;

    private ModelTest(int seed) {
        dice = new Random(seed);
    }

    public static void main(String[] args) {
        int runs = args.length > 0 ? Integer.parseInt(args[0]) : RUNS;
        int first = args.length > 1 ? Integer.parseInt(args[1]) : 0;
        for (int seed = first; seed < first + runs; seed++) {
            new ModelTest(seed).run();
        }
        exhaustSeals();
        exhaustWinds();
        Check.end();
    }

    private void run() {
        while (calls < CALLS) {
            boolean heard = dice.nextInt(150) == 0 || m.count(2) == 0 && dice.nextInt(4) == 0;
            if (heard) {
                text();
            } else {
                call();
            }
        }
    }

    private int upTo(int n) {
        return dice.nextInt(n + 1);
    }

    /** Mostly a number of 0 .. n; now and then one outside. */
    private int near(int n) {
        int kind = dice.nextInt(40);
        if (kind == 0) {
            return -1 - dice.nextInt(3);
        }
        if (kind == 1) {
            return n + 1 + dice.nextInt(3);
        }
        if (kind == 2) {
            return dice.nextInt();
        }
        return upTo(Math.max(0, n));
    }

    private static final String[] WORDS = {
        "crossing", "mountain", "mountain", "cellar", "city", "road", "road", "shaded", "bandits", "road", "shaded",
        "bandits", "cart", "old", "stamped", "cart", "warm", "warm", "calm", "land"
    };

    private String clause(int places, boolean careful) {
        String word = WORDS[dice.nextInt(WORDS.length)];
        StringBuilder clause = new StringBuilder(word);
        int numbers = switch (word) {
            case "road", "shaded", "bandits" -> 3;
            case "cart", "old", "stamped" -> 2;
            case "warm" -> 1;
            default -> 0;
        };
        int a = dice.nextInt(Math.max(1, places));
        for (int i = 0; i < numbers; i++) {
            int number;
            if (numbers == 1) {
                number = upTo(careful ? 47 : 50);
            } else if (numbers == 2 && i == 1) {
                number = upTo(careful ? 3 : 4);
            } else if (i == 2) {
                number = careful ? 1 + upTo(5) : upTo(7);
            } else if (i == 1) {
                number = places > 1 && careful ? (a + 1 + dice.nextInt(places - 1)) % places : upTo(places);
            } else {
                number = careful ? a : upTo(places);
            }
            clause.append(' ').append(number);
        }
        return clause.toString();
    }

    private static final String[] ROADS = {"road", "shaded", "bandits"};
    private static final String[] CARTS = {"cart", "old", "stamped"};

    /** Mountain, cellar, city and more, with roads that join them all, and carts mostly on the mountain. */
    private String country() {
        StringBuilder text = new StringBuilder("mountain;cellar;city");
        int places = 3 + dice.nextInt(3);
        for (int i = 3; i < places; i++) {
            text.append(';').append(WORDS[dice.nextInt(5)]);
        }
        int carts = 2 + dice.nextInt(2);
        int roads = 13 - places - carts;
        for (int i = 0; i < roads && i < 7; i++) {
            int a = i + 1 < places ? i + 1 : dice.nextInt(places);
            int b = i + 1 < places ? dice.nextInt(a) : (a + 1 + dice.nextInt(places - 1)) % places;
            text.append(';').append(ROADS[dice.nextInt(3)]).append(' ').append(a).append(' ').append(b);
            text.append(' ').append(1 + dice.nextInt(dice.nextInt(3) == 0 ? 6 : 3));
        }
        for (int i = 0; i < carts; i++) {
            text.append(';').append(CARTS[dice.nextInt(3)]).append(' ');
            text.append(dice.nextInt(3) > 0 ? 0 : dice.nextInt(places)).append(' ').append(dice.nextInt(4));
        }
        String told = text.toString();
        return m.count(0) > 0 && told.length() < 155 ? "land;" + told : told;
    }

    /** Some clauses more, on top of what there is. */
    private String more() {
        StringBuilder text = new StringBuilder();
        int clauses = 1 + dice.nextInt(4);
        for (int i = 0; i < clauses; i++) {
            text.append(i == 0 ? "" : ";").append(clause(m.count(0), dice.nextInt(20) > 0));
        }
        return text.toString();
    }

    private void text() {
        String text = m.count(2) == 0 ? country() : more();
        if (dice.nextInt(8) == 0) {
            text = spoil(text);
        }
        if (calls + text.length() + 3 > CALLS) {
            calls = CALLS;
            return;
        }
        for (int i = 0; i < text.length(); i++) {
            due("write(" + (int) text.charAt(i) + ")", x.write(text.charAt(i)), m.write(text.charAt(i)));
        }
        due("fault()", x.fault(), m.fault());
        due("land()", x.land(), m.land());
        if (m.count(10) > 0) {
            due("erase()", x.erase(), m.erase());
        }
    }

    /** A sign more, less, or in another one's place. */
    private String spoil(String text) {
        int at = dice.nextInt(text.length());
        String signs = "; a09.r  ";
        String sign = String.valueOf(signs.charAt(dice.nextInt(signs.length())));
        int rest = dice.nextInt(3);
        return text.substring(0, at) + (rest == 0 ? "" : sign) + text.substring(rest == 1 ? at : at + 1);
    }

    private void due(String call, long got, long want) {
        calls++;
        log.append(call).append(' ').append(want).append('\n');
        Check.due(call, got, want);
        if (got != want) {
            System.out.println("the run was:\n" + log);
            System.exit(1);
        }
    }

    /** Mostly a road that is where a cart is. */
    private int roadOf(int cart) {
        int bits = m.place(m.cart(cart, 2), 2);
        int road = near(m.count(1) - 1);
        for (int i = 0; i < 20 && bits > 0 && dice.nextInt(30) > 0; i++) {
            road = dice.nextInt(9);
            if ((bits >> road & 1) != 0) {
                return road;
            }
        }
        return road;
    }

    private void call() {
        int c = near(m.count(2) - 1);
        int p = near(m.count(0) - 1);
        switch (dice.nextInt(6)) {
            case 0 -> foretold(c, p);
            case 1 -> asked(c, p, roadOf(c));
            case 2 -> counted();
            default -> deed(c, near(m.count(2) - 1), roadOf(c));
        }
    }

    private void deed(int c, int o, int r) {
        String s = "(" + c + ", ";
        int kind = m.place(m.cart(c, 2), 0);
        if (kind == 3 && dice.nextInt(3) == 0) {
            due("sell(" + c, x.sell(c), m.sell(c));
        } else if (kind == 2 && dice.nextInt(2) == 0) {
            if (dice.nextInt(3) > 0) {
                due("store(" + c, x.store(c), m.store(c));
            } else {
                int f = 1 + near(30);
                due("take" + s + f, x.take(c, f), m.take(c, f));
            }
        } else if (kind == 1 && m.cart(c, 4) < 40) {
            int f = 1 + near(98 - m.cart(c, 4));
            due("fill" + s + f, x.fill(c, f), m.fill(c, f));
        } else {
            deedAnywhere(c, o, r);
        }
    }

    private void deedAnywhere(int c, int o, int r) {
        String s = "(" + c + ", ";
        switch (dice.nextInt(18)) {
            case 0 -> { int f = near(99); due("fill" + s + f, x.fill(c, f), m.fill(c, f)); }
            case 1 -> { int h = dice.nextInt(8) == 0 ? near(48) : 1 + upTo(2); due("rest" + s + h, x.rest(c, h), m.rest(c, h)); }
            case 2, 3 -> due("join" + s + o, x.join(c, o), m.join(c, o));
            case 4 -> due("store(" + c, x.store(c), m.store(c));
            case 5 -> { int f = 1 + near(30); due("take" + s + f, x.take(c, f), m.take(c, f)); }
            case 6 -> due("sell(" + c, x.sell(c), m.sell(c));
            case 7, 8, 9, 10 -> due("undo()", x.undo(), m.undo());
            case 11 -> { int k = near(1); due("keep(" + k, x.keep(k), m.keep(k)); }
            case 12 -> { int k = near(1); due("back(" + k, x.back(k), m.back(k)); }
            default -> due("go" + s + r, x.go(c, r), m.go(c, r));
        }
    }

    private void foretold(int c, int p) {
        String s = "(" + c + ", ";
        int o = near(m.count(2) - 1);
        int most = m.comes(c, p, 0);
        switch (dice.nextInt(4)) {
            case 0 -> {
                int f = most > 0 && dice.nextInt(3) > 0 ? Math.max(0, most - 5 + dice.nextInt(15)) : near(60);
                int h = dice.nextBoolean() ? near(48) : Math.min(48, Math.max(0, m.comes(c, p, 1) - 2 + dice.nextInt(6)));
                due("straw" + s + p + ", " + f + ", " + h, x.straw(c, p, f, h), m.straw(c, p, f, h));
            }
            case 1 -> { int w = near(1); due("meet" + s + o + ", " + p + ", " + w, x.meet(c, o, p, w), m.meet(c, o, p, w)); }
            default -> { int w = near(2); due("comes" + s + p + ", " + w, x.comes(c, p, w), m.comes(c, p, w)); }
        }
    }

    private void asked(int c, int p, int r) {
        String s = "(" + c + ", ";
        switch (dice.nextInt(8)) {
            case 0 -> { int k = near(3); due("as" + s + k, x.as(c, k), m.as(c, k)); }
            case 1 -> { int k = near(3); due("roadAs(" + r + ", " + k, x.roadAs(r, k), m.roadAs(r, k)); }
            case 2 -> { int q = near(m.count(0) - 1); int w = near(2); due("around(" + p + ", " + q + ", " + w, x.around(p, q, w), m.around(p, q, w)); }
            case 3, 4 -> drip(c, p, r);
            case 5 -> { int r2 = roadOf(c); due("rent" + s + r + ", " + r2, x.rent(c, r, r2), m.rent(c, r, r2)); }
            case 6 -> { int w = near(4); due("cart" + s + w, x.cart(c, w), m.cart(c, w)); }
            default -> { int w = near(3); due("place(" + p + ", " + w, x.place(p, w), m.place(p, w)); }
        }
    }

    /** Mostly of what comes by a road indeed, seen by going and undoing. */
    private void drip(int c, int p, int r) {
        int at = m.cart(c, 2);
        int to = m.road(r, 1) == at ? m.road(r, 2) : m.road(r, 1);
        int comes = near(40);
        if (to >= 0 && dice.nextInt(5) > 0) {
            p = to;
            Model.Spot arrival = m.arrival(c, r);
            comes = arrival == null ? comes : arrival.snow();
        }
        due("drip(" + c + ", " + p + ", " + comes, x.drip(c, p, comes), m.drip(c, p, comes));
    }

    private void counted() {
        switch (dice.nextInt(10)) {
            case 0 -> { int f = 1 + near(dice.nextInt(4) == 0 ? 29 : 6); due("taker(" + f, x.taker(f), m.taker(f)); }
            case 1 -> { if (dice.nextInt(6) == 0) due("dismiss()", x.dismiss(), m.dismiss()); }
            case 2 -> left();
            case 3 -> drawnNumbers();
            case 4 -> { int f = dice.nextBoolean() ? 1 + near(98) : 1 + upTo(20); due("put(" + f, x.put(f), m.put(f)); }
            case 5 -> { if (dice.nextInt(6) == 0) due("wipe()", x.wipe(), m.wipe()); }
            case 6, 7 -> { int h = near(43); int k = near(m.count(8) + 1) - 1; due("pass(" + h + ", " + k, x.pass(h, k), m.pass(h, k)); }
            case 8 -> { int w = near(10); due("count(" + w, x.count(w), m.count(w)); }
            default -> {
                int r = near(m.count(1) - 1);
                int w = near(3);
                due("road(" + r + ", " + w, x.road(r, w), m.road(r, w));
                int h = near(48);
                due("price(" + h, x.price(h), m.price(h));
            }
        }
    }

    private void left() {
        int s = dice.nextBoolean() ? near(999) : upTo(80);
        int l = near(999);
        for (int i = 0; i < 40 && m.left(s, l, 0) <= 0; i++) {
            l = Math.max(0, s - upTo(90));
        }
        int w = near(1);
        due("left(" + s + ", " + l + ", " + w, x.left(s, l, w), m.left(s, l, w));
    }

    private void drawnNumbers() {
        int s = near(99);
        int d = near(6);
        int p = near(10);
        int w = near(1);
        due("seal(" + s + ", " + d + ", " + p + ", " + w, x.seal(s, d, p, w), m.seal(s, d, p, w));
        int z = near(9999);
        int n = near(24);
        due("winds(" + z + ", " + n + ", " + s + ", " + w, x.winds(z, n, s, w), m.winds(z, n, s, w));
    }

    private static void exhaustSeals() {
        Model m = new Model();
        for (int s = 0; s <= 99; s++) {
            SnowCourse x = new SnowCourse();
            for (int d = 1; d <= 6; d++) {
                for (int p = 0; p <= 10; p++) {
                    for (int part = 0; part <= 1; part++) {
                        Check.due("seal(" + s + ", " + d + ", " + p + ", " + part + ")",
                                x.seal(s, d, p, part), m.seal(s, d, p, part));
                    }
                }
            }
        }
    }

    private static void exhaustWinds() {
        Model m = new Model();
        for (int z = 0; z <= 9999; z += 7) {
            SnowCourse x = new SnowCourse();
            for (int n = 0; n <= 24; n += 4) {
                Check.due("winds(" + z + ", " + n + ", 99, 0)", x.winds(z, n, 99, 0), m.winds(z, n, 99, 0));
                Check.due("winds(" + z + ", " + n + ", 99, 1)", x.winds(z, n, 99, 1), m.winds(z, n, 99, 1));
            }
        }
    }
}
