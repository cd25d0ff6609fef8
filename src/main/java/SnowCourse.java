import java.util.Arrays;

/** Snow carried from mountains to a hot city, as ../shared/DOC.md promises it. */
public final class SnowCourse {
    public static final int NONE = -1, UNKNOWN = -2, OUTSIDE = -3, NOT = -4, FULL = -5;

    private static final int LAST_HOUR = 48;
    private static final int MOST_SNOW = 99;
    private static final int MOST_STOCK = 999;
    private static final int MOST_STRAW = 3;
    private static final int MOST_KIND = 3;
    private static final int RENT_BASE = 9999;

    private final Script script;
    private final Country country;
    private final Chronicle chronicle;
    private final Takers takers;
    private final PassRow row;
    private final Ways ways;
    private final Reach reach;
    private final Reach otherReach;
    private final Reach joinedReach;

    public SnowCourse() {
        script = new Script();
        country = new Country();
        chronicle = new Chronicle();
        takers = new Takers();
        row = new PassRow();
        ways = new Ways();
        reach = new Reach();
        otherReach = new Reach();
        joinedReach = new Reach();
    }

    // ---- what is told

    public int write(int letter) {
        if (!within(letter, 0, 255)) {
            return OUTSIDE;
        }
        return script.append(letter) ? script.length : FULL;
    }

    public int erase() {
        int had = script.length;
        script.length = 0;
        return had;
    }

    public int fault() {
        return script.readOver(country);
    }

    public int land() {
        if (script.readOver(country) != NONE) {
            return NOT;
        }
        int clauses = script.clauses;
        script.tellTo(country);
        script.length = 0;
        chronicle.begin(country);
        takers.size = 0;
        row.size = 0;
        return clauses;
    }

    public int place(int place, int what) {
        if (!country.hasPlace(place)) {
            return UNKNOWN;
        }
        switch (what) {
            case 0: return country.placeKind[place];
            case 1: return chronicle.now.stock[place];
            case 2: return country.roadsAt(place);
            case 3: return chronicle.now.cartsIn(place, country.carts);
            default: return OUTSIDE;
        }
    }

    public int road(int road, int what) {
        if (!country.hasRoad(road)) {
            return UNKNOWN;
        }
        switch (what) {
            case 0: return country.roadKind[road];
            case 1: return country.roadA[road];
            case 2: return country.roadB[road];
            case 3: return country.roadHours[road];
            default: return OUTSIDE;
        }
    }

    public int cart(int cart, int what) {
        if (!country.hasCart(cart)) {
            return UNKNOWN;
        }
        switch (what) {
            case 0: return country.cartKind[cart];
            case 1: return country.cartStraw[cart];
            case 2: return chronicle.now.place[cart];
            case 3: return chronicle.now.hour[cart];
            case 4: return chronicle.now.snow[cart];
            default: return OUTSIDE;
        }
    }

    public int as(int cart, int kind) {
        if (!country.hasCart(cart)) {
            return UNKNOWN;
        }
        if (!within(kind, 0, MOST_KIND)) {
            return OUTSIDE;
        }
        if (!country.cartIs(cart, kind)) {
            return NOT;
        }
        int snow = chronicle.now.snow[cart];
        return snow - afterResting(cart, 1);
    }

    public int roadAs(int road, int kind) {
        if (!country.hasRoad(road)) {
            return UNKNOWN;
        }
        if (!within(kind, 0, MOST_KIND)) {
            return OUTSIDE;
        }
        if (!country.roadIs(road, kind)) {
            return NOT;
        }
        return country.afterRoad(road, 50, 0, Country.PLAIN, 0);
    }

    public int price(int hour) {
        return within(hour, 0, LAST_HOUR) ? Market.priceIn(hour) : OUTSIDE;
    }

    // ---- deeds

    public int fill(int cart, int n) {
        if (!country.hasCart(cart)) {
            return UNKNOWN;
        }
        if (!within(n, 1, MOST_SNOW)) {
            return OUTSIDE;
        }
        Standing now = chronicle.now;
        if (!isIn(cart, Country.MOUNTAIN)) {
            return NOT;
        }
        if (now.snow[cart] + n > MOST_SNOW) {
            return FULL;
        }
        chronicle.remember();
        now.snow[cart] += n;
        return now.snow[cart];
    }

    public int go(int cart, int road) {
        if (!country.hasCart(cart) || !country.hasRoad(road)) {
            return UNKNOWN;
        }
        Standing now = chronicle.now;
        if (!country.touches(road, now.place[cart])) {
            return NOT;
        }
        if (!comesInTime(cart, road)) {
            return FULL;
        }
        int snow = afterGoing(cart, road);
        chronicle.remember();
        now.snow[cart] = snow;
        now.place[cart] = country.farEnd(road, now.place[cart]);
        now.hour[cart] += country.roadHours[road];
        return snow;
    }

    public int rest(int cart, int n) {
        if (!country.hasCart(cart)) {
            return UNKNOWN;
        }
        if (!within(n, 1, LAST_HOUR)) {
            return OUTSIDE;
        }
        Standing now = chronicle.now;
        if (now.hour[cart] + n > LAST_HOUR) {
            return FULL;
        }
        int snow = afterResting(cart, n);
        chronicle.remember();
        now.snow[cart] = snow;
        now.hour[cart] += n;
        return snow;
    }

    public int join(int cart, int other) {
        if (!country.hasCart(cart) || !country.hasCart(other) || cart == other) {
            return UNKNOWN;
        }
        Standing now = chronicle.now;
        if (now.place[cart] != now.place[other]) {
            return NOT;
        }
        int hour = Math.max(now.hour[cart], now.hour[other]);
        int snow = afterResting(cart, hour - now.hour[cart])
                + afterResting(other, hour - now.hour[other]);
        if (snow > MOST_SNOW) {
            return FULL;
        }
        chronicle.remember();
        now.hour[cart] = hour;
        now.hour[other] = hour;
        now.snow[cart] = snow;
        now.snow[other] = 0;
        return snow;
    }

    public int store(int cart) {
        if (!country.hasCart(cart)) {
            return UNKNOWN;
        }
        if (!isIn(cart, Country.CELLAR)) {
            return NOT;
        }
        Standing now = chronicle.now;
        int cellar = now.place[cart];
        int stock = Melt.opened(now.stock[cellar]) + now.snow[cart];
        if (stock > MOST_STOCK) {
            return FULL;
        }
        chronicle.remember();
        now.stock[cellar] = stock;
        now.snow[cart] = 0;
        return stock;
    }

    public int take(int cart, int n) {
        if (!country.hasCart(cart)) {
            return UNKNOWN;
        }
        if (!within(n, 1, MOST_SNOW)) {
            return OUTSIDE;
        }
        if (!isIn(cart, Country.CELLAR)) {
            return NOT;
        }
        Standing now = chronicle.now;
        int cellar = now.place[cart];
        int stock = Melt.opened(now.stock[cellar]);
        if (stock < n) {
            return NOT;
        }
        if (now.snow[cart] + n > MOST_SNOW) {
            return FULL;
        }
        chronicle.remember();
        now.stock[cellar] = stock - n;
        now.snow[cart] += n;
        return now.snow[cart];
    }

    public int sell(int cart) {
        if (!country.hasCart(cart)) {
            return UNKNOWN;
        }
        if (!isIn(cart, Country.CITY)) {
            return NOT;
        }
        Standing now = chronicle.now;
        int gain = now.snow[cart] * Market.priceIn(now.hour[cart]);
        chronicle.remember();
        now.snow[cart] = 0;
        now.got += gain;
        return gain;
    }

    public int undo() {
        return chronicle.recall() ? chronicle.undoable : NOT;
    }

    public int keep(int k) {
        if (!within(k, 0, Chronicle.MOST_KEPT - 1)) {
            return UNKNOWN;
        }
        chronicle.preserve(k);
        return k;
    }

    public int back(int k) {
        if (!within(k, 0, Chronicle.MOST_KEPT - 1)) {
            return UNKNOWN;
        }
        return chronicle.restore(k) ? k : NOT;
    }

    // ---- what may come

    public int comes(int cart, int place, int what) {
        if (!country.hasCart(cart) || !country.hasPlace(place)) {
            return UNKNOWN;
        }
        if (!within(what, 0, 2)) {
            return OUTSIDE;
        }
        spreadFrom(reach, cart, country.cartStraw[cart]);
        if (what == 2) {
            return reach.unlikeIn(place);
        }
        return what == 0 ? reach.mostIn(place) : reach.soonestOfMost(place);
    }

    public int straw(int cart, int place, int n, int h) {
        if (!country.hasCart(cart) || !country.hasPlace(place)) {
            return UNKNOWN;
        }
        if (!within(n, 0, MOST_SNOW) || !within(h, 0, LAST_HOUR)) {
            return OUTSIDE;
        }
        for (int amount = 0; amount <= MOST_STRAW; amount++) {
            spreadFrom(reach, cart, amount);
            if (reach.mayHave(place, n, h)) {
                return amount;
            }
        }
        return NONE;
    }

    public int meet(int cart, int other, int place, int what) {
        if (!country.hasCart(cart) || !country.hasCart(other) || cart == other
                || !country.hasPlace(place)) {
            return UNKNOWN;
        }
        if (!within(what, 0, 1)) {
            return OUTSIDE;
        }
        spreadFrom(reach, cart, country.cartStraw[cart]);
        spreadFrom(otherReach, other, country.cartStraw[other]);
        joinedReach.joinOf(reach, otherReach, country.places);
        joinedReach.spread(country, country.cartKind[cart], country.cartStraw[cart]);
        return what == 0 ? joinedReach.mostIn(place) : joinedReach.soonestOfMost(place);
    }

    // ---- who, by which road

    public int taker(int n) {
        if (!within(n, 1, Takers.MOST_TAKEN)) {
            return OUTSIDE;
        }
        return takers.append(n) ? takers.size : FULL;
    }

    public int dismiss() {
        int were = takers.size;
        takers.size = 0;
        return were;
    }

    public int left(int s, int l, int what) {
        if (!within(s, 0, MOST_STOCK) || !within(l, 0, MOST_STOCK) || !within(what, 0, 1)) {
            return OUTSIDE;
        }
        return what == 0 ? takers.setsLeaving(s, l) : takers.leastLeaving(s, l);
    }

    public int drip(int cart, int place, int pounds) {
        if (!country.hasCart(cart) || !country.hasPlace(place)
                || chronicle.now.place[cart] == place) {
            return UNKNOWN;
        }
        if (!within(pounds, 0, MOST_SNOW)) {
            return OUTSIDE;
        }
        int here = chronicle.now.place[cart];
        int bits = 0;
        for (int road = 0; road < country.roads; road++) {
            if (country.links(road, here, place) && comesInTime(cart, road)
                    && afterGoing(cart, road) == pounds) {
                bits |= 1 << road;
            }
        }
        return bits;
    }

    // ---- seals, rents, ways

    public long seal(int s, int d, int p, int part) {
        if (!within(s, 0, MOST_SNOW) || !within(d, 1, Market.MOST_DAYS)
                || !within(p, 0, 10) || !within(part, 0, 1)) {
            return OUTSIDE;
        }
        return Market.inLowestTerms(Market.sealedWorth(s, d, p), d, part);
    }

    public int rent(int cart, int road, int other) {
        if (!country.hasCart(cart) || !country.hasRoad(road) || !country.hasRoad(other)
                || road == other) {
            return UNKNOWN;
        }
        if (!mayGo(cart, road) || !mayGo(cart, other)) {
            return NOT;
        }
        return worthBy(cart, road) - worthBy(cart, other) + RENT_BASE;
    }

    public int around(int from, int to, int what) {
        if (!country.hasPlace(from) || !country.hasPlace(to)) {
            return UNKNOWN;
        }
        if (!within(what, 0, 2)) {
            return OUTSIDE;
        }
        ways.measure(country, to);
        if (!ways.leadFrom(from)) {
            return NONE;
        }
        if (what == 2) {
            return ways.firstRoad(country, from);
        }
        return what == 0 ? ways.banditsFrom(from) : ways.hoursFrom(from);
    }

    // ---- passes, winds

    public int put(int n) {
        if (!within(n, 1, MOST_SNOW)) {
            return OUTSIDE;
        }
        return row.append(n) ? row.size : FULL;
    }

    public int wipe() {
        int had = row.size;
        row.size = 0;
        return had;
    }

    public int pass(int hour, int k) {
        if (!within(hour, 0, PassRow.LAST_START) || k < NONE) {
            return OUTSIDE;
        }
        if (k >= row.size) {
            return NONE;
        }
        row.weigh(country.warm, hour);
        return k == NONE ? row.mostThrough() : row.loadInTurn(k);
    }

    public int winds(int z, int n, int w, int what) {
        if (!within(z, 0, 9999) || !within(n, 0, 24) || !within(w, 0, MOST_SNOW)
                || !within(what, 0, 1)) {
            return OUTSIDE;
        }
        long warm = Melt.warmByDraw(z, n);
        return what == 0 ? Long.bitCount(warm) : Melt.afterOpen(warm, 0, n, w);
    }

    public int count(int what) {
        switch (what) {
            case 0: return country.places;
            case 1: return country.roads;
            case 2: return country.carts;
            case 3: return Long.bitCount(country.warm);
            case 4: return chronicle.now.got;
            case 5: return chronicle.now.allSnow();
            case 6: return chronicle.now.allStock();
            case 7: return takers.size;
            case 8: return row.size;
            case 9: return chronicle.undoable;
            case 10: return script.length;
            default: return OUTSIDE;
        }
    }

    // ---- what the calls above share; cart and road are known ones here

    private static boolean within(int number, int low, int high) {
        return number >= low && number <= high;
    }

    private boolean isIn(int cart, int placeKind) {
        return country.placeKind[chronicle.now.place[cart]] == placeKind;
    }

    private boolean comesInTime(int cart, int road) {
        return chronicle.now.hour[cart] + country.roadHours[road] <= LAST_HOUR;
    }

    private boolean mayGo(int cart, int road) {
        return country.touches(road, chronicle.now.place[cart]) && comesInTime(cart, road);
    }

    private int afterGoing(int cart, int road) {
        Standing now = chronicle.now;
        return country.afterRoad(road, now.snow[cart], now.hour[cart],
                country.cartKind[cart], country.cartStraw[cart]);
    }

    private int afterResting(int cart, int hours) {
        Standing now = chronicle.now;
        int snow = now.snow[cart];
        for (int i = 0; i < hours; i++) {
            snow = country.afterHourIn(now.place[cart], snow, now.hour[cart] + i,
                    country.cartKind[cart], country.cartStraw[cart]);
        }
        return snow;
    }

    private int worthBy(int cart, int road) {
        int arrival = chronicle.now.hour[cart] + country.roadHours[road];
        return afterGoing(cart, road) * Market.priceIn(arrival);
    }

    private void spreadFrom(Reach into, int cart, int amountOfStraw) {
        Standing now = chronicle.now;
        into.clear();
        into.mark(now.place[cart], now.hour[cart], now.snow[cart]);
        into.spread(country, country.cartKind[cart], amountOfStraw);
    }

    /** How snow melts, apart from where it lies. */
    private static final class Melt {
        /** The greatest number whose square is no more than n, for n up to MOST_STOCK. */
        static int root(int n) {
            int root = 0;
            for (int next = 1; next <= 32 && next * next <= n; next++) {
                root = next;
            }
            return root;
        }

        /** What is left of a cellar's stock when it is opened. */
        static int opened(int stock) {
            return stock - root(stock);
        }

        /** What w pounds would lose in an hour under the open sky, even if it is more than w. */
        static int heat(long warm, int hour, int w, int kind, int straw) {
            // A kind's number is by how much it loses less than a plain cart.
            int lost = Math.max(0, root(w) + 1 - kind - straw);
            if ((warm >> hour & 1) != 0) {
                lost += 2;
            }
            int hourOfDay = hour % 24;
            return hourOfDay >= 10 && hourOfDay <= 15 ? 2 * lost : lost;
        }

        /** What is left of w pounds that would lose so much. */
        static int less(int w, int lost) {
            return w - Math.min(w, lost);
        }

        /** What is left of w pounds, plain and without straw, after hours in the open. */
        static int afterOpen(long warm, int hour, int hours, int w) {
            int snow = w;
            for (int i = 0; i < hours; i++) {
                snow = less(snow, heat(warm, hour + i, snow, Country.PLAIN, 0));
            }
            return snow;
        }

        /** The warm hours, by bits, that the number z draws among the first n. */
        static long warmByDraw(int z, int n) {
            long warm = 0;
            for (int k = 0; k < n; k++) {
                long x = 7919L * z + 6151L * k + 1;
                long draw = x * x % 65521;
                if (draw % 4 == 0) {
                    warm |= 1L << k;
                }
            }
            return warm;
        }
    }

    /** Prices, and what a sealed cellar is worth. */
    private static final class Market {
        static final int MOST_DAYS = 6;

        static int priceIn(int hour) {
            switch (hour % 24 / 6) {
                case 0: return 4;
                case 1: return 3;
                case 2: return 5;
                default: return 2;
            }
        }

        static long tens(int n) {
            long power = 1;
            for (int i = 0; i < n; i++) {
                power *= 10;
            }
            return power;
        }

        /** What s pounds bring in the mean by the best, times tens(days). */
        private static long sealedWorth(int s, int days, int p) {
            // Behind the last day nothing can be had any more, so on it all is sold.
            if (days < 1 || days > MOST_DAYS) {
                return 0;
            }
            long unit = tens(days - 1);
            long warm = Math.max(5 * s * unit, sealedWorth(Melt.opened(s), days - 1, p));
            long calm = Math.max(3 * s * unit, sealedWorth(s, days - 1, p));
            return p * warm + (10 - p) * calm;
        }

        /** Above (part 0) or below (1) in lowest terms, where below is tens(n). */
        static long inLowestTerms(long above, int n, int part) {
            long over = above;
            long under = tens(n);
            for (int i = 0; i < n; i++) {
                if (over % 2 == 0 && under % 2 == 0) {
                    over /= 2;
                    under /= 2;
                }
                if (over % 5 == 0 && under % 5 == 0) {
                    over /= 5;
                    under /= 5;
                }
            }
            return part == 0 ? over : under;
        }
    }

    /** Places, roads, carts and warm hours as texts told them; no deed changes it. */
    private static final class Country {
        static final int MOST_PLACES = 7, MOST_ROADS = 9, MOST_CARTS = 4;
        static final int MOUNTAIN = 1, CELLAR = 2, CITY = 3;
        static final int OPEN = 0, SHADED = 1, BANDITS = 2;
        static final int PLAIN = 0;

        final int[] placeKind = new int[MOST_PLACES];
        final int[] roadKind = new int[MOST_ROADS];
        final int[] roadA = new int[MOST_ROADS];
        final int[] roadB = new int[MOST_ROADS];
        final int[] roadHours = new int[MOST_ROADS];
        final int[] cartKind = new int[MOST_CARTS];
        final int[] cartStart = new int[MOST_CARTS];
        final int[] cartStraw = new int[MOST_CARTS];
        int places;
        int roads;
        int carts;
        long warm;

        void clear() {
            places = 0;
            roads = 0;
            carts = 0;
            warm = 0;
        }

        void addPlace(int kind) {
            if (places < MOST_PLACES) {
                placeKind[places] = kind;
                places++;
            }
        }

        void addRoad(int kind, int a, int b, int hours) {
            if (roads < MOST_ROADS) {
                roadKind[roads] = kind;
                roadA[roads] = a;
                roadB[roads] = b;
                roadHours[roads] = hours;
                roads++;
            }
        }

        void addCart(int kind, int start, int straw) {
            if (carts < MOST_CARTS) {
                cartKind[carts] = kind;
                cartStart[carts] = start;
                cartStraw[carts] = straw;
                carts++;
            }
        }

        boolean hasPlace(int place) {
            return place >= 0 && place < places;
        }

        boolean hasRoad(int road) {
            return road >= 0 && road < roads;
        }

        boolean hasCart(int cart) {
            return cart >= 0 && cart < carts;
        }

        /** Kinds of carts are a chain, load above plain above old above stamped. */
        boolean cartIs(int cart, int kind) {
            return kind <= cartKind[cart] + 1;
        }

        /** Kinds of roads are a tree: open and shaded under road, bandits under open. */
        boolean roadIs(int road, int kind) {
            int own = roadKind[road];
            return kind == 0 || kind == own + 1 || kind == OPEN + 1 && own == BANDITS;
        }

        boolean touches(int road, int place) {
            return roadA[road] == place || roadB[road] == place;
        }

        boolean links(int road, int from, int to) {
            return touches(road, from) && farEnd(road, from) == to;
        }

        int farEnd(int road, int place) {
            return roadA[road] == place ? roadB[road] : roadA[road];
        }

        int roadsAt(int place) {
            int bits = 0;
            for (int road = 0; road < roads; road++) {
                if (touches(road, place)) {
                    bits |= 1 << road;
                }
            }
            return bits;
        }

        /** What is left of w pounds that lie in a place for an hour. */
        int afterHourIn(int place, int w, int hour, int kind, int straw) {
            if (w == 0 || placeKind[place] == CELLAR) {
                return w;
            }
            return Melt.less(w, Melt.heat(warm, hour, w, kind, straw));
        }

        /** What comes of w pounds that set out by a road in an hour. */
        int afterRoad(int road, int w, int hour, int kind, int straw) {
            boolean shaded = roadKind[road] == SHADED;
            int snow = w;
            for (int i = 0; i < roadHours[road] && snow > 0; i++) {
                int lost = Melt.heat(warm, hour + i, snow, kind, straw);
                snow = Melt.less(snow, shaded ? lost / 2 : lost);
            }
            return roadKind[road] == BANDITS ? snow - snow / 10 : snow;
        }
    }

    /** All that deeds change. */
    private static final class Standing {
        final int[] place = new int[Country.MOST_CARTS];
        final int[] hour = new int[Country.MOST_CARTS];
        final int[] snow = new int[Country.MOST_CARTS];
        final int[] stock = new int[Country.MOST_PLACES];
        int got;

        void begin(Country country) {
            for (int cart = 0; cart < Country.MOST_CARTS; cart++) {
                place[cart] = cart < country.carts ? country.cartStart[cart] : 0;
                hour[cart] = 0;
                snow[cart] = 0;
            }
            Arrays.fill(stock, 0);
            got = 0;
        }

        void copyOf(Standing other) {
            System.arraycopy(other.place, 0, place, 0, Country.MOST_CARTS);
            System.arraycopy(other.hour, 0, hour, 0, Country.MOST_CARTS);
            System.arraycopy(other.snow, 0, snow, 0, Country.MOST_CARTS);
            System.arraycopy(other.stock, 0, stock, 0, Country.MOST_PLACES);
            got = other.got;
        }

        int cartsIn(int where, int carts) {
            int bits = 0;
            for (int cart = 0; cart < carts; cart++) {
                if (place[cart] == where) {
                    bits |= 1 << cart;
                }
            }
            return bits;
        }

        int allSnow() {
            int sum = 0;
            for (int pounds : snow) {
                sum += pounds;
            }
            return sum;
        }

        int allStock() {
            int sum = 0;
            for (int pounds : stock) {
                sum += pounds;
            }
            return sum;
        }
    }

    /** The present standing, those that can be undone, and those that are kept. */
    private static final class Chronicle {
        static final int MOST_UNDONE = 8, MOST_KEPT = 2;

        final Standing now = new Standing();
        /** A ring: the newest one stands ahead of next. */
        final Standing[] past = new Standing[MOST_UNDONE];
        final Standing[] kept = new Standing[MOST_KEPT];
        final boolean[] isKept = new boolean[MOST_KEPT];
        int next;
        int undoable;

        Chronicle() {
            for (int i = 0; i < MOST_UNDONE; i++) {
                past[i] = new Standing();
            }
            for (int k = 0; k < MOST_KEPT; k++) {
                kept[k] = new Standing();
            }
        }

        void begin(Country country) {
            now.begin(country);
            undoable = 0;
            for (int k = 0; k < MOST_KEPT; k++) {
                isKept[k] = false;
            }
        }

        /** Each deed calls this ahead of its first change. */
        void remember() {
            past[next].copyOf(now);
            next = (next + 1) % MOST_UNDONE;
            undoable = Math.min(undoable + 1, MOST_UNDONE);
        }

        boolean recall() {
            if (undoable == 0) {
                return false;
            }
            next = (next + MOST_UNDONE - 1) % MOST_UNDONE;
            now.copyOf(past[next]);
            undoable--;
            return true;
        }

        void preserve(int k) {
            kept[k].copyOf(now);
            isKept[k] = true;
        }

        boolean restore(int k) {
            if (!isKept[k]) {
                return false;
            }
            now.copyOf(kept[k]);
            undoable = 0;
            return true;
        }
    }

    /** The text, read token by token. */
    private static final class Script {
        static final int MOST_LETTERS = 160, MOST_CLAUSES = 14, MOST_NUMBERS = 3;
        // Words of one group follow one another as their kinds do.
        static final int NO_WORD = -1, LAND = 0, FIRST_PLACE = 1, FIRST_ROAD = 5,
                FIRST_CART = 8, WARM = 11, CALM = 12;

        final char[] letters = new char[MOST_LETTERS];
        int length;
        /** What was read last: a word a clause, and its numbers. */
        final int[] words = new int[MOST_CLAUSES];
        final int[] numbers = new int[MOST_CLAUSES * MOST_NUMBERS];
        int clauses;
        /** The token in hand: letters from start on, ahead of end. */
        int start;
        int end;
        /** How many there would be behind the clauses read so far. */
        int places;
        int roads;
        int carts;

        boolean append(int letter) {
            if (length >= MOST_LETTERS) {
                return false;
            }
            letters[length] = (char) letter;
            length++;
            return true;
        }

        /** Reads the text as told on top of a country: the place of its fault, or NONE. */
        int readOver(Country country) {
            places = country.places;
            roads = country.roads;
            carts = country.carts;
            clauses = 0;
            end = 0;
            for (int i = 0; i < MOST_CLAUSES; i++) {
                nextToken();
                if (!readClause()) {
                    return start;
                }
                clauses++;
                if (start == length) {
                    return NONE;
                }
                if (letters[start] != ';') {
                    return start;
                }
            }
            // One clause more cannot be, so this last ; cannot stand there.
            return start;
        }

        void tellTo(Country country) {
            for (int i = 0; i < clauses; i++) {
                int at = i * MOST_NUMBERS;
                int word = words[i];
                if (word == LAND) {
                    country.clear();
                } else if (word < FIRST_ROAD) {
                    country.addPlace(word - FIRST_PLACE);
                } else if (word < FIRST_CART) {
                    country.addRoad(word - FIRST_ROAD, numbers[at], numbers[at + 1], numbers[at + 2]);
                } else if (word < WARM) {
                    country.addCart(word - FIRST_CART, numbers[at], numbers[at + 1]);
                } else if (word == WARM) {
                    country.warm |= 1L << numbers[at];
                } else {
                    country.warm = 0;
                }
            }
        }

        /** Behind a clause its next token is in hand; else the one that cannot stand there. */
        private boolean readClause() {
            int word = wordInHand();
            if (word == NO_WORD) {
                return false;
            }
            words[clauses] = word;
            if (word == LAND) {
                places = 0;
                roads = 0;
                carts = 0;
                nextToken();
                return true;
            }
            if (word < FIRST_ROAD) {
                return readPlace();
            }
            if (word < FIRST_CART) {
                return readRoad();
            }
            if (word < WARM) {
                return readCart();
            }
            nextToken();
            return word == CALM || readNumber(0, 0, LAST_HOUR - 1, NONE);
        }

        private boolean readPlace() {
            if (places >= Country.MOST_PLACES) {
                return false;
            }
            places++;
            nextToken();
            return true;
        }

        private boolean readRoad() {
            if (roads >= Country.MOST_ROADS) {
                return false;
            }
            roads++;
            nextToken();
            return readNumber(0, 0, places - 1, NONE)
                    && readNumber(1, 0, places - 1, numbers[clauses * MOST_NUMBERS])
                    && readNumber(2, 1, 6, NONE);
        }

        private boolean readCart() {
            if (carts >= Country.MOST_CARTS) {
                return false;
            }
            carts++;
            nextToken();
            return readNumber(0, 0, places - 1, NONE) && readNumber(1, 0, MOST_STRAW, NONE);
        }

        /** Takes a number of low .. high but for one as the clause's number of this slot. */
        private boolean readNumber(int slot, int low, int high, int butNot) {
            int digits = end - start;
            if (digits < 1 || digits > 2 || !isDigit(letters[start])) {
                return false;
            }
            int number = letters[start] - '0';
            if (digits == 2) {
                number = 10 * number + letters[start + 1] - '0';
            }
            if (!within(number, low, high) || number == butNot) {
                return false;
            }
            numbers[clauses * MOST_NUMBERS + slot] = number;
            nextToken();
            return true;
        }

        private void nextToken() {
            start = end;
            while (start < length && letters[start] == ' ') {
                start++;
            }
            end = start;
            if (end >= length) {
                return;
            }
            boolean small = isSmall(letters[start]);
            boolean digit = isDigit(letters[start]);
            end++;
            while (end < length && (small && isSmall(letters[end]) || digit && isDigit(letters[end]))) {
                end++;
            }
        }

        private int wordInHand() {
            if (spells("land")) {
                return LAND;
            }
            if (spells("warm")) {
                return WARM;
            }
            if (spells("calm")) {
                return CALM;
            }
            int place = kindOf("crossing", "mountain", "cellar", "city");
            if (place != NONE) {
                return FIRST_PLACE + place;
            }
            int road = kindOf("road", "shaded", "bandits", "");
            if (road != NONE) {
                return FIRST_ROAD + road;
            }
            int cart = kindOf("cart", "old", "stamped", "");
            return cart != NONE ? FIRST_CART + cart : NO_WORD;
        }

        /** Which of these words the token spells; an empty one is none. */
        private int kindOf(String zero, String one, String two, String three) {
            if (spells(zero)) {
                return 0;
            }
            if (spells(one)) {
                return 1;
            }
            if (spells(two)) {
                return 2;
            }
            return spells(three) ? 3 : NONE;
        }

        private boolean spells(String word) {
            if (word.isEmpty() || end - start != word.length()) {
                return false;
            }
            for (int i = 0; i < word.length(); i++) {
                if (letters[start + i] != word.charAt(i)) {
                    return false;
                }
            }
            return true;
        }

        private static boolean isSmall(char letter) {
            return letter >= 'a' && letter <= 'z';
        }

        private static boolean isDigit(char letter) {
            return letter >= '0' && letter <= '9';
        }
    }

    /** Where a cart may be, when, and with how much snow. */
    private static final class Reach {
        static final int AMOUNTS = MOST_SNOW + 1;

        /** By place and snow: the hours, by bits. */
        final long[] hours = new long[Country.MOST_PLACES * AMOUNTS];

        void clear() {
            Arrays.fill(hours, 0L);
        }

        void mark(int place, int hour, int snow) {
            hours[place * AMOUNTS + snow] |= 1L << hour;
        }

        /** Marks all that comes of what is marked by going and resting. */
        void spread(Country country, int kind, int straw) {
            // Time goes on and snow never grows, so in this order all is marked ahead of its turn.
            for (int snow = MOST_SNOW; snow >= 0; snow--) {
                if (!isAnywhere(snow)) {
                    continue;
                }
                for (int hour = 0; hour < LAST_HOUR; hour++) {
                    for (int place = 0; place < country.places; place++) {
                        if ((hours[place * AMOUNTS + snow] >> hour & 1) != 0) {
                            leave(country, place, hour, snow, kind, straw);
                        }
                    }
                }
            }
        }

        private boolean isAnywhere(int snow) {
            long all = 0;
            for (int place = 0; place < Country.MOST_PLACES; place++) {
                all |= hours[place * AMOUNTS + snow];
            }
            return all != 0;
        }

        private void leave(Country country, int place, int hour, int snow, int kind, int straw) {
            mark(place, hour + 1, country.afterHourIn(place, snow, hour, kind, straw));
            for (int road = 0; road < country.roads; road++) {
                int arrival = hour + country.roadHours[road];
                if (country.touches(road, place) && arrival <= LAST_HOUR) {
                    mark(country.farEnd(road, place), arrival,
                            country.afterRoad(road, snow, hour, kind, straw));
                }
            }
        }

        /** Marks where and when both may be, with the snow of both, as far as one cart holds it. */
        void joinOf(Reach first, Reach second, int places) {
            clear();
            for (int place = 0; place < places; place++) {
                int at = place * AMOUNTS;
                for (int one = 0; one < AMOUNTS; one++) {
                    long when = first.hours[at + one];
                    for (int two = 0; when != 0 && one + two < AMOUNTS; two++) {
                        hours[at + one + two] |= when & second.hours[at + two];
                    }
                }
            }
        }

        int mostIn(int place) {
            for (int snow = MOST_SNOW; snow >= 0; snow--) {
                if (hours[place * AMOUNTS + snow] != 0) {
                    return snow;
                }
            }
            return NONE;
        }

        int soonestOfMost(int place) {
            int most = mostIn(place);
            if (most == NONE) {
                return NONE;
            }
            long when = hours[place * AMOUNTS + most];
            for (int hour = 0; hour <= LAST_HOUR; hour++) {
                if ((when >> hour & 1) != 0) {
                    return hour;
                }
            }
            return NONE;
        }

        /** How many unlike amounts may be in a place; NONE, if none may. */
        int unlikeIn(int place) {
            int unlike = 0;
            for (int snow = 0; snow <= MOST_SNOW; snow++) {
                if (hours[place * AMOUNTS + snow] != 0) {
                    unlike++;
                }
            }
            return unlike == 0 ? NONE : unlike;
        }

        boolean mayHave(int place, int least, int lastHour) {
            long inTime = (1L << lastHour + 1) - 1;
            for (int snow = least; snow <= MOST_SNOW; snow++) {
                if ((hours[place * AMOUNTS + snow] & inTime) != 0) {
                    return true;
                }
            }
            return false;
        }
    }

    /** Those who may have opened a cellar. */
    private static final class Takers {
        static final int MOST_TAKERS = 5, MOST_TAKEN = 30;

        final int[] takes = new int[MOST_TAKERS];
        int size;

        boolean append(int n) {
            if (size >= MOST_TAKERS) {
                return false;
            }
            takes[size] = n;
            size++;
            return true;
        }

        int setsLeaving(int stock, int rest) {
            int sets = 0;
            for (int set = 0; set < 1 << size; set++) {
                if (restBy(set, stock) == rest) {
                    sets++;
                }
            }
            return sets;
        }

        int leastLeaving(int stock, int rest) {
            for (int set = 0; set < 1 << size; set++) {
                if (restBy(set, stock) == rest) {
                    return set;
                }
            }
            return NONE;
        }

        /** What a set leaves of a stock; NONE, if one of it cannot take its own. */
        private int restBy(int set, int stock) {
            int rest = stock;
            for (int i = 0; i < size; i++) {
                if ((set >> i & 1) != 0) {
                    rest = Melt.opened(rest) - takes[i];
                    if (rest < 0) {
                        return NONE;
                    }
                }
            }
            return rest;
        }
    }

    /** Ways to one place, with fewest bandits and then fewest hours. */
    private static final class Ways {
        // A way has fewer than 100 hours, so one number tells both and compares as asked.
        static final int BANDITS_COST = 100, NO_WAY = 1000000;

        final int[] cost = new int[Country.MOST_PLACES];

        void measure(Country country, int to) {
            Arrays.fill(cost, NO_WAY);
            cost[to] = 0;
            for (int round = 1; round < country.places; round++) {
                for (int road = 0; road < country.roads; road++) {
                    int a = country.roadA[road];
                    int b = country.roadB[road];
                    int step = stepCost(country, road);
                    cost[a] = Math.min(cost[a], cost[b] + step);
                    cost[b] = Math.min(cost[b], cost[a] + step);
                }
            }
        }

        private static int stepCost(Country country, int road) {
            int hours = country.roadHours[road];
            return country.roadKind[road] == Country.BANDITS ? BANDITS_COST + hours : hours;
        }

        boolean leadFrom(int from) {
            return cost[from] < NO_WAY;
        }

        int banditsFrom(int from) {
            return cost[from] / BANDITS_COST;
        }

        int hoursFrom(int from) {
            return cost[from] % BANDITS_COST;
        }

        /** The least road with which a best way begins; NONE, if one is there. */
        int firstRoad(Country country, int from) {
            for (int road = 0; road < country.roads; road++) {
                if (country.touches(road, from)
                        && cost[country.farEnd(road, from)] + stepCost(country, road) == cost[from]) {
                    return road;
                }
            }
            return NONE;
        }
    }

    /** The row of loads that wait at a pass. */
    private static final class PassRow {
        static final int MOST_LOADS = 5, LAST_START = 43;

        final int[] loads = new int[MOST_LOADS];
        int size;
        /** By load and turn: what is left of it then. */
        final int[] inTurn = new int[MOST_LOADS * MOST_LOADS];
        /** By the set of loads that are through: the most that may follow. */
        final int[] best = new int[1 << MOST_LOADS];

        boolean append(int n) {
            if (size >= MOST_LOADS) {
                return false;
            }
            loads[size] = n;
            size++;
            return true;
        }

        void weigh(long warm, int hour) {
            for (int load = 0; load < size; load++) {
                for (int turn = 0; turn < size; turn++) {
                    inTurn[load * MOST_LOADS + turn] = Melt.afterOpen(warm, hour, turn, loads[load]);
                }
            }
            int all = (1 << size) - 1;
            best[all] = 0;
            for (int through = all - 1; through >= 0; through--) {
                best[through] = 0;
                for (int load = 0; load < size; load++) {
                    if ((through >> load & 1) == 0) {
                        best[through] = Math.max(best[through], nextWith(through, load));
                    }
                }
            }
        }

        private int nextWith(int through, int load) {
            int turn = Integer.bitCount(through);
            return inTurn[load * MOST_LOADS + turn] + best[through | 1 << load];
        }

        int mostThrough() {
            return best[0];
        }

        /** Of the best orders' first row, the load that goes in this turn. */
        int loadInTurn(int turn) {
            int through = 0;
            int chosen = NONE;
            for (int i = 0; i <= turn && i < size; i++) {
                chosen = firstBest(through);
                if (chosen == NONE) {
                    return NONE;
                }
                through |= 1 << chosen;
            }
            return chosen;
        }

        private int firstBest(int through) {
            for (int load = 0; load < size; load++) {
                if ((through >> load & 1) == 0 && nextWith(through, load) == best[through]) {
                    return load;
                }
            }
            return NONE;
        }
    }
}
