import java.math.BigInteger;
import java.util.ArrayDeque;
import java.util.ArrayList;
import java.util.Arrays;
import java.util.HashSet;
import java.util.List;
import java.util.Set;
import java.util.TreeMap;
import java.util.TreeSet;

/** The document once more, written the slow way and apart from the program, to compare with. */
final class Model {
    static final int NONE = -1, UNKNOWN = -2, OUTSIDE = -3, NOT = -4, FULL = -5;

    record Road(int kind, int a, int b, int hours) { }

    record Cart(int kind, int straw, int start) { }

    record Spot(int place, int hour, int snow) { }

    record Country(List<Integer> places, List<Road> roads, List<Cart> carts, Set<Integer> warm) {
        Country copy() {
            return new Country(new ArrayList<>(places), new ArrayList<>(roads), new ArrayList<>(carts),
                    new TreeSet<>(warm));
        }
    }

    record Deeds(List<Spot> carts, List<Integer> stock, int got) {
        Deeds copy() {
            return new Deeds(new ArrayList<>(carts), new ArrayList<>(stock), got);
        }
    }

    private final StringBuilder text = new StringBuilder();
    private Country country = new Country(new ArrayList<>(), new ArrayList<>(), new ArrayList<>(), new TreeSet<>());
    private Deeds deeds = new Deeds(new ArrayList<>(), new ArrayList<>(), 0);
    private final ArrayDeque<Deeds> past = new ArrayDeque<>();
    private final Deeds[] kept = new Deeds[2];
    private final List<Integer> takers = new ArrayList<>();
    private final List<Integer> row = new ArrayList<>();

    // ---- what is told

    int write(int letter) {
        if (letter < 0 || letter > 255) return OUTSIDE;
        if (text.length() == 160) return FULL;
        text.append((char) letter);
        return text.length();
    }

    int erase() {
        int had = text.length();
        text.setLength(0);
        return had;
    }

    private static final List<String> PLACES = List.of("crossing", "mountain", "cellar", "city");
    private static final List<String> ROADS = List.of("road", "shaded", "bandits");
    private static final List<String> CARTS = List.of("cart", "old", "stamped");

    private TreeMap<Integer, String> tokens() {
        TreeMap<Integer, String> tokens = new TreeMap<>();
        java.util.regex.Matcher m = java.util.regex.Pattern.compile("[a-z]+|[0-9]+|[^ ]", java.util.regex.Pattern.DOTALL)
                .matcher(text);
        while (m.find()) tokens.put(m.start(), m.group());
        tokens.put(text.length(), "");
        return tokens;
    }

    /** A country with the text's clauses done, or null with fault set. */
    private int faultAt;
    private int clauses;

    private Country reading() {
        List<Integer> at = new ArrayList<>(tokens().keySet());
        List<String> tokens = new ArrayList<>(tokens().values());
        Country c = country.copy();
        faultAt = NONE;
        clauses = 0;
        int i = 0;
        while (true) {
            String word = tokens.get(i);
            List<int[]> bounds = new ArrayList<>();
            int n = c.places.size() - 1;
            boolean known = true;
            if (PLACES.contains(word)) known = c.places.size() < 7;
            else if (ROADS.contains(word)) {
                known = c.roads.size() < 9;
                bounds = List.of(new int[] {0, n}, new int[] {0, n}, new int[] {1, 6});
            } else if (CARTS.contains(word)) {
                known = c.carts.size() < 4;
                bounds = List.of(new int[] {0, n}, new int[] {0, 3});
            } else if (word.equals("warm")) bounds = List.of(new int[] {0, 47});
            else known = word.equals("land") || word.equals("calm");
            if (!known) { faultAt = at.get(i); return null; }
            int[] got = new int[3];
            for (int k = 0; k < bounds.size(); k++) {
                String number = tokens.get(i + 1 + k);
                boolean fine = number.matches("[0-9]{1,2}");
                if (fine) {
                    got[k] = Integer.parseInt(number);
                    fine = got[k] >= bounds.get(k)[0] && got[k] <= bounds.get(k)[1];
                    if (k == 1 && ROADS.contains(word) && got[0] == got[1]) fine = false;
                }
                if (!fine) { faultAt = at.get(i + 1 + k); return null; }
            }
            if (word.equals("land")) { c.places.clear(); c.roads.clear(); c.carts.clear(); c.warm.clear(); }
            else if (word.equals("calm")) c.warm.clear();
            else if (word.equals("warm")) c.warm.add(got[0]);
            else if (PLACES.contains(word)) c.places.add(PLACES.indexOf(word));
            else if (ROADS.contains(word)) c.roads.add(new Road(ROADS.indexOf(word), got[0], got[1], got[2]));
            else c.carts.add(new Cart(CARTS.indexOf(word), got[1], got[0]));
            clauses++;
            i += 1 + bounds.size();
            if (tokens.get(i).isEmpty()) return c;
            if (!tokens.get(i).equals(";") || clauses == 14) { faultAt = at.get(i); return null; }
            i++;
        }
    }

    int fault() {
        reading();
        return faultAt;
    }

    int land() {
        Country c = reading();
        if (c == null) return NOT;
        country = c;
        text.setLength(0);
        List<Spot> carts = new ArrayList<>();
        for (Cart cart : c.carts) carts.add(new Spot(cart.start, 0, 0));
        List<Integer> stock = new ArrayList<>();
        for (int i = 0; i < c.places.size(); i++) stock.add(0);
        deeds = new Deeds(carts, stock, 0);
        past.clear();
        kept[0] = null;
        kept[1] = null;
        takers.clear();
        row.clear();
        return clauses;
    }

    private boolean noPlace(int p) { return p < 0 || p >= country.places.size(); }

    private boolean noRoad(int r) { return r < 0 || r >= country.roads.size(); }

    private boolean noCart(int c) { return c < 0 || c >= country.carts.size(); }

    int place(int p, int what) {
        if (noPlace(p)) return UNKNOWN;
        if (what < 0 || what > 3) return OUTSIDE;
        if (what == 0) return country.places.get(p);
        if (what == 1) return deeds.stock.get(p);
        int bits = 0;
        if (what == 2) {
            for (int r = 0; r < country.roads.size(); r++) {
                Road road = country.roads.get(r);
                if (road.a == p || road.b == p) bits += 1 << r;
            }
        } else {
            for (int c = 0; c < deeds.carts.size(); c++) if (deeds.carts.get(c).place == p) bits += 1 << c;
        }
        return bits;
    }

    int road(int r, int what) {
        if (noRoad(r)) return UNKNOWN;
        Road road = country.roads.get(r);
        return what == 0 ? road.kind : what == 1 ? road.a : what == 2 ? road.b : what == 3 ? road.hours : OUTSIDE;
    }

    int cart(int c, int what) {
        if (noCart(c)) return UNKNOWN;
        Cart cart = country.carts.get(c);
        Spot spot = deeds.carts.get(c);
        return switch (what) {
            case 0 -> cart.kind;
            case 1 -> cart.straw;
            case 2 -> spot.place;
            case 3 -> spot.hour;
            case 4 -> spot.snow;
            default -> OUTSIDE;
        };
    }

    // ---- melting

    private static int root(int n) {
        int r = 0;
        while ((r + 1) * (r + 1) <= n) r++;
        return r;
    }

    /** What w pounds are an hour later; where: 0 open, 1 shaded, 2 cellar. */
    private static int later(int w, int kind, int straw, int hour, boolean warm, int where) {
        if (w == 0 || where == 2) return w;
        int loss = root(w) + 1;
        if (kind >= 1) loss--;
        if (kind >= 2) loss--;
        loss -= straw;
        if (loss < 0) loss = 0;
        if (warm) loss += 2;
        List<Integer> noon = List.of(10, 11, 12, 13, 14, 15);
        if (noon.contains(hour) || noon.contains(hour - 24)) loss = loss * 2;
        if (where == 1) loss = loss / 2;
        return loss > w ? 0 : w - loss;
    }

    private int rested(Cart cart, int straw, int place, int snow, int hour) {
        int where = country.places.get(place) == 2 ? 2 : 0;
        return later(snow, cart.kind, straw, hour, country.warm.contains(hour), where);
    }

    private int gone(Cart cart, int straw, Road road, int snow, int hour) {
        int w = snow;
        for (int i = hour; i < hour + road.hours; i++)
            w = later(w, cart.kind, straw, i, country.warm.contains(i), road.kind == 1 ? 1 : 0);
        return road.kind == 2 ? w - w / 10 : w;
    }

    int as(int c, int kind) {
        if (noCart(c)) return UNKNOWN;
        if (kind < 0 || kind > 3) return OUTSIDE;
        Cart cart = country.carts.get(c);
        List<Set<Integer>> are = List.of(Set.of(0, 1), Set.of(0, 1, 2), Set.of(0, 1, 2, 3));
        if (!are.get(cart.kind).contains(kind)) return NOT;
        Spot s = deeds.carts.get(c);
        return s.snow - rested(cart, cart.straw, s.place, s.snow, s.hour);
    }

    int roadAs(int r, int kind) {
        if (noRoad(r)) return UNKNOWN;
        if (kind < 0 || kind > 3) return OUTSIDE;
        Road road = country.roads.get(r);
        List<Set<Integer>> are = List.of(Set.of(0, 1), Set.of(0, 2), Set.of(0, 1, 3));
        if (!are.get(road.kind).contains(kind)) return NOT;
        return gone(new Cart(0, 0, 0), 0, road, 50, 0);
    }

    int price(int hour) {
        if (hour < 0 || hour > 48) return OUTSIDE;
        int h = hour % 24;
        return h <= 5 ? 4 : h <= 11 ? 3 : h <= 17 ? 5 : 2;
    }

    // ---- deeds

    private void did(Deeds now) {
        past.addLast(deeds);
        if (past.size() > 8) past.removeFirst();
        deeds = now;
    }

    private boolean in(int c, int kind) {
        return country.places.get(deeds.carts.get(c).place) == kind;
    }

    int fill(int c, int n) {
        if (noCart(c)) return UNKNOWN;
        if (n < 1 || n > 99) return OUTSIDE;
        if (!in(c, 1)) return NOT;
        Spot s = deeds.carts.get(c);
        if (s.snow + n > 99) return FULL;
        Deeds d = deeds.copy();
        d.carts.set(c, new Spot(s.place, s.hour, s.snow + n));
        did(d);
        return s.snow + n;
    }

    private int other(Road road, int place) {
        return road.a == place ? road.b : road.b == place ? road.a : NONE;
    }

    int go(int c, int r) {
        if (noCart(c) || noRoad(r)) return UNKNOWN;
        Spot s = deeds.carts.get(c);
        Road road = country.roads.get(r);
        if (other(road, s.place) == NONE) return NOT;
        if (s.hour + road.hours > 48) return FULL;
        Cart cart = country.carts.get(c);
        Spot to = new Spot(other(road, s.place), s.hour + road.hours, gone(cart, cart.straw, road, s.snow, s.hour));
        Deeds d = deeds.copy();
        d.carts.set(c, to);
        did(d);
        return to.snow;
    }

    /** Where a cart would be by a road; null, if it cannot go. */
    Spot arrival(int c, int r) {
        if (noCart(c) || noRoad(r)) return null;
        Deeds was = deeds;
        List<Deeds> gone = new ArrayList<>(past);
        Spot to = go(c, r) < 0 ? null : deeds.carts.get(c);
        deeds = was;
        past.clear();
        past.addAll(gone);
        return to;
    }

    private Spot restedTill(int c, int hour) {
        Spot s = deeds.carts.get(c);
        Cart cart = country.carts.get(c);
        while (s.hour < hour)
            s = new Spot(s.place, s.hour + 1, rested(cart, cart.straw, s.place, s.snow, s.hour));
        return s;
    }

    int rest(int c, int n) {
        if (noCart(c)) return UNKNOWN;
        if (n < 1 || n > 48) return OUTSIDE;
        int till = deeds.carts.get(c).hour + n;
        if (till > 48) return FULL;
        Deeds d = deeds.copy();
        d.carts.set(c, restedTill(c, till));
        did(d);
        return deeds.carts.get(c).snow;
    }

    int join(int c, int o) {
        if (noCart(c) || noCart(o) || c == o) return UNKNOWN;
        Spot a = deeds.carts.get(c);
        Spot b = deeds.carts.get(o);
        if (a.place != b.place) return NOT;
        int hour = Math.max(a.hour, b.hour);
        a = restedTill(c, hour);
        b = restedTill(o, hour);
        if (a.snow + b.snow > 99) return FULL;
        Deeds d = deeds.copy();
        d.carts.set(c, new Spot(a.place, hour, a.snow + b.snow));
        d.carts.set(o, new Spot(b.place, hour, 0));
        did(d);
        return a.snow + b.snow;
    }

    int store(int c) {
        if (noCart(c)) return UNKNOWN;
        if (!in(c, 2)) return NOT;
        Spot s = deeds.carts.get(c);
        int stock = deeds.stock.get(s.place);
        stock = stock - root(stock) + s.snow;
        if (stock > 999) return FULL;
        Deeds d = deeds.copy();
        d.stock.set(s.place, stock);
        d.carts.set(c, new Spot(s.place, s.hour, 0));
        did(d);
        return stock;
    }

    int take(int c, int n) {
        if (noCart(c)) return UNKNOWN;
        if (n < 1 || n > 99) return OUTSIDE;
        if (!in(c, 2)) return NOT;
        Spot s = deeds.carts.get(c);
        int stock = deeds.stock.get(s.place);
        stock -= root(stock);
        if (stock < n) return NOT;
        if (s.snow + n > 99) return FULL;
        Deeds d = deeds.copy();
        d.stock.set(s.place, stock - n);
        d.carts.set(c, new Spot(s.place, s.hour, s.snow + n));
        did(d);
        return s.snow + n;
    }

    int sell(int c) {
        if (noCart(c)) return UNKNOWN;
        if (!in(c, 3)) return NOT;
        Spot s = deeds.carts.get(c);
        int gain = s.snow * price(s.hour);
        Deeds d = deeds.copy();
        d.carts.set(c, new Spot(s.place, s.hour, 0));
        did(new Deeds(d.carts, d.stock, d.got + gain));
        return gain;
    }

    int undo() {
        if (past.isEmpty()) return NOT;
        deeds = past.removeLast();
        return past.size();
    }

    int keep(int k) {
        if (k != 0 && k != 1) return UNKNOWN;
        kept[k] = deeds;
        return k;
    }

    int back(int k) {
        if (k != 0 && k != 1) return UNKNOWN;
        if (kept[k] == null) return NOT;
        deeds = kept[k];
        past.clear();
        return k;
    }

    // ---- what may come

    private Set<Spot> from(Cart cart, int straw, Set<Spot> begin) {
        Set<Spot> seen = new HashSet<>(begin);
        ArrayDeque<Spot> open = new ArrayDeque<>(begin);
        while (!open.isEmpty()) {
            Spot s = open.poll();
            List<Spot> next = new ArrayList<>();
            next.add(new Spot(s.place, s.hour + 1, rested(cart, straw, s.place, s.snow, s.hour)));
            for (Road road : country.roads)
                if (other(road, s.place) != NONE)
                    next.add(new Spot(other(road, s.place), s.hour + road.hours, gone(cart, straw, road, s.snow, s.hour)));
            for (Spot n : next) if (n.hour <= 48 && seen.add(n)) open.add(n);
        }
        return seen;
    }

    private static int told(Set<Spot> spots, int place, int what) {
        int most = NONE;
        int soonest = NONE;
        Set<Integer> unlike = new HashSet<>();
        for (Spot s : spots) {
            if (s.place != place) continue;
            unlike.add(s.snow);
            if (s.snow > most || s.snow == most && s.hour < soonest) {
                most = s.snow;
                soonest = s.hour;
            }
        }
        return unlike.isEmpty() ? NONE : what == 0 ? most : what == 1 ? soonest : unlike.size();
    }

    private Set<Spot> may(int c, int straw) {
        return from(country.carts.get(c), straw, Set.of(deeds.carts.get(c)));
    }

    int comes(int c, int p, int what) {
        if (noCart(c) || noPlace(p)) return UNKNOWN;
        if (what < 0 || what > 2) return OUTSIDE;
        return told(may(c, country.carts.get(c).straw), p, what);
    }

    int straw(int c, int p, int n, int h) {
        if (noCart(c) || noPlace(p)) return UNKNOWN;
        if (n < 0 || n > 99 || h < 0 || h > 48) return OUTSIDE;
        for (int straw = 0; straw <= 3; straw++)
            for (Spot s : may(c, straw)) if (s.place == p && s.hour <= h && s.snow >= n) return straw;
        return NONE;
    }

    int meet(int c, int o, int p, int what) {
        if (noCart(c) || noCart(o) || c == o || noPlace(p)) return UNKNOWN;
        if (what < 0 || what > 1) return OUTSIDE;
        Cart cart = country.carts.get(c);
        Set<Spot> begin = new HashSet<>();
        Set<Spot> others = may(o, country.carts.get(o).straw);
        for (Spot a : may(c, cart.straw))
            for (int w = 0; w + a.snow <= 99; w++)
                if (others.contains(new Spot(a.place, a.hour, w))) begin.add(new Spot(a.place, a.hour, a.snow + w));
        return told(from(cart, cart.straw, begin), p, what);
    }

    // ---- who, by which road

    int taker(int n) {
        if (n < 1 || n > 30) return OUTSIDE;
        if (takers.size() == 5) return FULL;
        takers.add(n);
        return takers.size();
    }

    int dismiss() {
        int were = takers.size();
        takers.clear();
        return were;
    }

    private void leave(int turn, int set, int stock, int l, List<Integer> sets) {
        if (turn == takers.size()) {
            if (stock == l) sets.add(set);
            return;
        }
        leave(turn + 1, set, stock, l, sets);
        int open = stock - root(stock);
        if (open >= takers.get(turn)) leave(turn + 1, set | 1 << turn, open - takers.get(turn), l, sets);
    }

    int left(int s, int l, int what) {
        if (s < 0 || s > 999 || l < 0 || l > 999 || what < 0 || what > 1) return OUTSIDE;
        List<Integer> sets = new ArrayList<>();
        leave(0, 0, s, l, sets);
        return what == 0 ? sets.size() : sets.stream().min(Integer::compare).orElse(NONE);
    }

    int drip(int c, int p, int pounds) {
        if (noCart(c) || noPlace(p) || deeds.carts.get(c).place == p) return UNKNOWN;
        if (pounds < 0 || pounds > 99) return OUTSIDE;
        Spot s = deeds.carts.get(c);
        Cart cart = country.carts.get(c);
        int bits = 0;
        for (int r = 0; r < country.roads.size(); r++) {
            Road road = country.roads.get(r);
            if (other(road, s.place) == p && s.hour + road.hours <= 48
                    && gone(cart, cart.straw, road, s.snow, s.hour) == pounds) bits += 1 << r;
        }
        return bits;
    }

    // ---- seals, rents, ways

    /** Above and below, in lowest terms. */
    private static BigInteger[] mean(int s, int d, int p) {
        BigInteger[] warm = {BigInteger.valueOf(5L * s), BigInteger.ONE};
        BigInteger[] calm = {BigInteger.valueOf(3L * s), BigInteger.ONE};
        if (d > 1) {
            warm = greater(warm, mean(s - root(s), d - 1, p));
            calm = greater(calm, mean(s, d - 1, p));
        }
        BigInteger above = warm[0].multiply(calm[1]).multiply(BigInteger.valueOf(p))
                .add(calm[0].multiply(warm[1]).multiply(BigInteger.valueOf(10 - p)));
        BigInteger below = warm[1].multiply(calm[1]).multiply(BigInteger.TEN);
        BigInteger common = above.gcd(below);
        return new BigInteger[] {above.divide(common), below.divide(common)};
    }

    private static BigInteger[] greater(BigInteger[] a, BigInteger[] b) {
        return a[0].multiply(b[1]).compareTo(b[0].multiply(a[1])) >= 0 ? a : b;
    }

    long seal(int s, int d, int p, int part) {
        if (s < 0 || s > 99 || d < 1 || d > 6 || p < 0 || p > 10 || part < 0 || part > 1) return OUTSIDE;
        return mean(s, d, p)[part].longValueExact();
    }

    int rent(int c, int r, int o) {
        if (noCart(c) || noRoad(r) || noRoad(o) || r == o) return UNKNOWN;
        Spot s = deeds.carts.get(c);
        Cart cart = country.carts.get(c);
        int[] worth = new int[2];
        for (int i = 0; i < 2; i++) {
            Road road = country.roads.get(i == 0 ? r : o);
            int hour = s.hour + road.hours;
            if (other(road, s.place) == NONE || hour > 48) return NOT;
            worth[i] = gone(cart, cart.straw, road, s.snow, s.hour) * price(hour);
        }
        return 9999 + worth[0] - worth[1];
    }

    /** All ways without a place twice: bandits, hours, first road; the best is kept. */
    private void walk(int at, int to, Set<Integer> been, int[] way, int[] best) {
        if (at == to) {
            if (Arrays.compare(way, best) < 0 || best[0] == NONE) System.arraycopy(way, 0, best, 0, 3);
            return;
        }
        for (int r = 0; r < country.roads.size(); r++) {
            Road road = country.roads.get(r);
            int next = other(road, at);
            if (next == NONE || been.contains(next)) continue;
            Set<Integer> then = new HashSet<>(been);
            then.add(next);
            int[] longer = {way[0] + (road.kind == 2 ? 1 : 0), way[1] + road.hours, way[2] == NONE ? r : way[2]};
            walk(next, to, then, longer, best);
        }
    }

    int around(int from, int to, int what) {
        if (noPlace(from) || noPlace(to)) return UNKNOWN;
        if (what < 0 || what > 2) return OUTSIDE;
        int[] best = {NONE, NONE, NONE};
        walk(from, to, Set.of(from), new int[] {0, 0, NONE}, best);
        return best[what];
    }

    // ---- passes, winds

    int put(int n) {
        if (n < 1 || n > 99) return OUTSIDE;
        if (row.size() == 5) return FULL;
        row.add(n);
        return row.size();
    }

    int wipe() {
        int had = row.size();
        row.clear();
        return had;
    }

    private void orders(int hour, List<Integer> order, int pounds, List<Integer> best, int[] most) {
        if (order.size() == row.size()) {
            if (pounds > most[0]) {
                most[0] = pounds;
                best.clear();
                best.addAll(order);
            }
            return;
        }
        for (int i = 0; i < row.size(); i++) {
            if (order.contains(i)) continue;
            int w = row.get(i);
            for (int k = 0; k < order.size(); k++) w = later(w, 0, 0, hour + k, country.warm.contains(hour + k), 0);
            List<Integer> longer = new ArrayList<>(order);
            longer.add(i);
            orders(hour, longer, pounds + w, best, most);
        }
    }

    int pass(int hour, int k) {
        if (hour < 0 || hour > 43 || k < NONE) return OUTSIDE;
        List<Integer> best = new ArrayList<>();
        int[] most = {-1};
        orders(hour, List.of(), 0, best, most);
        return k == NONE ? most[0] : k < best.size() ? best.get(k) : NONE;
    }

    int winds(int z, int n, int w, int what) {
        if (z < 0 || z > 9999 || n < 0 || n > 24 || w < 0 || w > 99 || what < 0 || what > 1) return OUTSIDE;
        int warm = 0;
        int left = w;
        for (int k = 0; k < n; k++) {
            BigInteger x = BigInteger.valueOf(7919L * z + 6151L * k + 1);
            boolean is = x.multiply(x).mod(BigInteger.valueOf(65521)).intValue() % 4 == 0;
            if (is) warm++;
            left = later(left, 0, 0, k, is, 0);
        }
        return what == 0 ? warm : left;
    }

    int count(int what) {
        return switch (what) {
            case 0 -> country.places.size();
            case 1 -> country.roads.size();
            case 2 -> country.carts.size();
            case 3 -> country.warm.size();
            case 4 -> deeds.got;
            case 5 -> deeds.carts.stream().mapToInt(Spot::snow).sum();
            case 6 -> deeds.stock.stream().mapToInt(Integer::intValue).sum();
            case 7 -> takers.size();
            case 8 -> row.size();
            case 9 -> past.size();
            case 10 -> text.length();
            default -> OUTSIDE;
        };
    }
}
