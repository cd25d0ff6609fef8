/** Edges of promises 12 to 21; each method is headed by the words of ../shared/DOC.md that it looks at. */
final class DeedsEdgesTest {
    private static final int UNKNOWN = -2, OUTSIDE = -3, NOT = -4, FULL = -5;
    private static final int MIN = Integer.MIN_VALUE, MAX = Integer.MAX_VALUE;
    private static final int[] NO_CART = {MIN, -1, 4, MAX};
    /** A cart in a place of each kind: 0 on a mountain, 1 in a city, 2 in a cellar, 3 at a crossing. */
    private static final String EACH_KIND = "mountain;city;cellar;crossing;road 0 1 1;road 1 2 1;road 3 2 1;"
            + "cart 0 0;cart 1 0;cart 2 0;cart 3 0";

    public static void main(String[] args) {
        fillUnknownOrOutside();
        fillInNoMountain();
        fillAbove99();
        goUnknown();
        goFromAfar();
        goLaterThan48();
        goBothWays();
        goThroughNoon();
        goByBandits();
        goInTheShade();
        restUnknownOrOutside();
        restLaterThan48();
        restLoses();
        joinUnknown();
        joinInOnePlace();
        joinAbove99();
        joinTillTheLaterHour();
        storeInNoCellar();
        storeOpens();
        storeAbove999();
        takeUnknownOrOutside();
        takeOfLess();
        takeAbove99();
        sellInNoCity();
        sellByTheHour();
        undoNone();
        undoTheLastEight();
        undoDeedsAlone();
        keep();
        back();
        backAndUndo();
        theLastOf512Calls();
        Check.end();
    }

    // ---- promise 12

    /** "n pounds (1 .. 99) more for a CART: SNOW. UNKNOWN; OUTSIDE". */
    private static void fillUnknownOrOutside() {
        Twins at = Worlds.of(EACH_KIND);
        for (int cart : NO_CART) {
            at.unchanged("fill(" + cart + ", 1)", x -> x.fill(cart, 1), UNKNOWN);
            at.unchanged("fill(" + cart + ", 0)", x -> x.fill(cart, 0), UNKNOWN);
        }
        int[] outside = {MIN, -1, 0, 100, MAX};
        for (int n : outside) {
            at.unchanged("fill(0, " + n + ")", x -> x.fill(0, n), OUTSIDE);
            at.unchanged("fill(1, " + n + ") in a city", x -> x.fill(1, n), OUTSIDE);
        }
        SnowCourse x = at.answers("fill(0, 1)", y -> y.fill(0, 1), 1);
        Check.due("cart(0, 4)", x.cart(0, 4), 1);
        Check.due("cart(0, 3): it takes no hour", x.cart(0, 3), 0);
        Check.due("count(9)", x.count(9), 1);
        SnowCourse z = at.answers("fill(0, 99)", y -> y.fill(0, 99), 99);
        Check.due("cart(0, 4)", z.cart(0, 4), 99);
        Check.due("the last of four carts", Worlds.full().fresh().fill(3, 99), 99);
    }

    /** "NOT: it is in no MOUNTAIN"; it is ahead of FULL. */
    private static void fillInNoMountain() {
        Twins at = Worlds.of(EACH_KIND);
        for (int cart = 1; cart <= 3; cart++) {
            int c = cart;
            at.unchanged("fill(" + c + ", 1)", x -> x.fill(c, 1), NOT);
            at.unchanged("fill(" + c + ", 99)", x -> x.fill(c, 99), NOT);
        }
        Twins gone = new Twins("89 pounds in a city", x -> {
            Check.tell(x, EACH_KIND);
            x.fill(0, 99);
            x.go(0, 0);
        });
        gone.unchanged("fill(0, 1)", x -> x.fill(0, 1), NOT);
        gone.unchanged("fill(0, 11), above 99, too", x -> x.fill(0, 11), NOT);
        gone.unchanged("fill(0, 99), above 99, too", x -> x.fill(0, 99), NOT);
        gone.unchanged("fill(0, 100), above 99, too", x -> x.fill(0, 100), OUTSIDE);
        SnowCourse back = gone.fresh();
        back.go(0, 0);
        Check.due("fill on the mountain again", back.fill(0, 20), 99);
    }

    /** "FULL: above 99". */
    private static void fillAbove99() {
        Twins at = new Twins("90 pounds", x -> {
            Check.tell(x, EACH_KIND);
            x.fill(0, 40);
            x.fill(0, 50);
        });
        at.unchanged("fill(0, 10)", x -> x.fill(0, 10), FULL);
        at.unchanged("fill(0, 99)", x -> x.fill(0, 99), FULL);
        at.unchanged("fill(0, 100)", x -> x.fill(0, 100), OUTSIDE);
        at.unchanged("fill(0, 0)", x -> x.fill(0, 0), OUTSIDE);
        SnowCourse x = at.answers("fill(0, 9)", y -> y.fill(0, 9), 99);
        Check.due("fill(0, 1) on 99", x.fill(0, 1), FULL);
        Check.due("cart(0, 4)", x.cart(0, 4), 99);
        Check.due("count(9)", x.count(9), 3);
        Twins late = new Twins("hour 48", y -> {
            Check.tell(y, EACH_KIND);
            y.rest(0, 48);
        });
        late.answers("fill(0, 99)", y -> y.fill(0, 99), 99);
    }

    // ---- promise 13

    /** "UNKNOWN (no such .. ROAD, CART ..)", ahead of NOT and FULL. */
    private static void goUnknown() {
        int[] noRoad = {MIN, -1, 9, MAX};
        for (int cart : NO_CART) {
            Worlds.full().unchanged("go(" + cart + ", 0)", x -> x.go(cart, 0), UNKNOWN);
            Worlds.full().unchanged("go(" + cart + ", 9)", x -> x.go(cart, 9), UNKNOWN);
        }
        Twins late = new Twins("hour 48", x -> {
            Check.tell(x, EACH_KIND);
            x.rest(0, 48);
        });
        for (int road : noRoad) {
            Worlds.full().unchanged("go(0, " + road + ")", x -> x.go(0, road), UNKNOWN);
            late.unchanged("go(0, " + road + ")", x -> x.go(0, road), UNKNOWN);
        }
        late.unchanged("go(0, 3), a fourth of three", x -> x.go(0, 3), UNKNOWN);
        late.unchanged("go(4, 0)", x -> x.go(4, 0), UNKNOWN);
        Worlds.full().answers("go(3, 8), the last of both", x -> x.go(3, 8), 0);
    }

    /** "NOT: that is not at its PLACE", ahead of FULL. */
    private static void goFromAfar() {
        Twins at = Worlds.of(EACH_KIND);
        at.unchanged("go(0, 1)", x -> x.go(0, 1), NOT);
        at.unchanged("go(0, 2)", x -> x.go(0, 2), NOT);
        at.unchanged("go(3, 0)", x -> x.go(3, 0), NOT);
        Twins late = new Twins("hour 48", x -> {
            Check.tell(x, EACH_KIND);
            x.rest(0, 48);
        });
        late.unchanged("go(0, 1)", x -> x.go(0, 1), NOT);
        late.unchanged("go(0, 0)", x -> x.go(0, 0), FULL);
        // Its first place does not matter, but where it is.
        Twins gone = new Twins("gone", x -> {
            Check.tell(x, EACH_KIND);
            x.go(0, 0);
            x.go(0, 1);
        });
        gone.unchanged("go(0, 0)", x -> x.go(0, 0), NOT);
        gone.answers("go(0, 1)", x -> x.go(0, 1), 0);
        gone.answers("go(0, 2)", x -> x.go(0, 2), 0);
    }

    /** "FULL: later than HOUR 48"; "HOURS (1 .. 6)". */
    private static void goLaterThan48() {
        for (int hours = 1; hours <= 6; hours++) {
            int h = hours;
            Twins just = new Twins("a road of " + h + " up to 48", x -> {
                Check.tell(x, "mountain;city;road 0 1 " + h + ";stamped 0 3");
                x.rest(0, 48 - h);
                x.fill(0, 5);
            });
            SnowCourse x = just.answers("go(0, 0)", y -> y.go(0, 0), 5);
            Check.due("cart(0, 3)", x.cart(0, 3), 48);
            Check.due("cart(0, 2)", x.cart(0, 2), 1);
            Twins late = new Twins("a road of " + h + " up to 49", y -> {
                Check.tell(y, "mountain;city;road 0 1 " + h + ";stamped 0 3");
                y.rest(0, 49 - h);
                y.fill(0, 5);
            });
            late.unchanged("go(0, 0)", y -> y.go(0, 0), FULL);
        }
    }

    /** "each between two PLACES, both ways". */
    private static void goBothWays() {
        SnowCourse x = Check.told("mountain;city;shaded 1 0 2;cart 0 0;cart 1 0");
        Check.due("go(0, 0) from B to A", x.go(0, 0), 0);
        Check.due("cart(0, 2)", x.cart(0, 2), 1);
        Check.due("cart(0, 3)", x.cart(0, 3), 2);
        Check.due("go(1, 0) from A to B", x.go(1, 0), 0);
        Check.due("cart(1, 2)", x.cart(1, 2), 0);
        Check.due("go(0, 0) back", x.go(0, 0), 0);
        Check.due("cart(0, 2)", x.cart(0, 2), 0);
        Check.due("cart(0, 3)", x.cart(0, 3), 4);
        Check.due("place(0, 3)", x.place(0, 3), 3);
        Check.due("place(1, 3)", x.place(1, 3), 0);
    }

    private static int goAt(String road, String cart, int hour, int pounds) {
        SnowCourse x = Check.told("mountain;crossing;" + road + ";" + cart);
        if (hour > 0) {
            x.rest(0, hour);
        }
        x.fill(0, pounds);
        return x.go(0, 0);
    }

    /** "its SNOW loses in each of its HOURS": each hour on the way by itself, noon and warm ones, too. */
    private static void goThroughNoon() {
        int[] starts = {8, 9, 10, 14, 15, 16, 32, 33, 38, 39, 40};
        // 50 loses 8, then 42 loses 7; twice as much at noon: 50 - 16 = 34 loses 6, 42 loses 14.
        int[] due = {35, 28, 22, 22, 28, 35, 35, 28, 22, 28, 35};
        for (int i = 0; i < starts.length; i++) {
            Check.due("50 from hour " + starts[i], goAt("road 0 1 2", "cart 0 0", starts[i], 50), due[i]);
        }
        // 50 - 8 = 42, 42 - 9 = 33 if the second hour is warm; 50 - 10 = 40, 40 - 7 = 33 if the first one is.
        Check.due("warm at last", goAt("road 0 1 2", "cart 0 0;warm 1", 0, 50), 33);
        Check.due("warm at first", goAt("road 0 1 2", "cart 0 0;warm 0", 0, 50), 33);
        Check.due("warm behind", goAt("road 0 1 2", "cart 0 0;warm 2", 0, 50), 35);
        Check.due("warm ahead", goAt("road 0 1 2", "cart 0 0;warm 4", 5, 50), 35);
        Check.due("warm in the last hour", goAt("road 0 1 1", "cart 0 0;warm 47", 47, 50), 40);
        // Nothing is left on the way.
        Check.due("1 pound", goAt("road 0 1 6", "cart 0 0", 0, 1), 0);
        Check.due("3 pounds, one hour", goAt("road 0 1 1", "cart 0 0", 0, 3), 1);
        Check.due("2 pounds, one hour", goAt("road 0 1 1", "cart 0 0", 0, 2), 0);
    }

    /** "BANDITS take a tenth (cut) of what comes." */
    private static void goByBandits() {
        int[] comes = {0, 1, 9, 10, 11, 19, 20, 24};
        int[] left = {0, 1, 9, 9, 10, 18, 18, 22};
        for (int i = 1; i < comes.length; i++) {
            // Below 25 pounds, a stamped cart with straw 3 loses nothing.
            Check.due(comes[i] + " by bandits", goAt("bandits 0 1 6", "stamped 0 3", 0, comes[i]), left[i]);
            Check.due(comes[i] + " by a road", goAt("road 0 1 6", "stamped 0 3", 0, comes[i]), comes[i]);
        }
        // 99 - 10 = 89, less 8: of what comes, not of what went.
        Check.due("99 by bandits", goAt("bandits 0 1 1", "cart 0 0", 0, 99), 81);
        Check.due("12 by bandits: 8 come", goAt("bandits 0 1 1", "cart 0 0", 0, 12), 8);
        Check.due("nothing by bandits", Check.told("mountain;city;bandits 0 1 1;cart 0 0").go(0, 0), 0);
    }

    /** "on a SHADED ROAD half of that (cut); .. w at most". */
    private static void goInTheShade() {
        // Plain: 1 loses 2, 4 loses 3, 9 loses 4, 16 loses 5, 25 loses 6.
        int[] pounds = {1, 4, 9, 16, 25};
        int[] left = {0, 3, 7, 14, 22};
        for (int i = 0; i < pounds.length; i++) {
            Check.due(pounds[i] + " in the shade", goAt("shaded 0 1 1", "cart 0 0", 0, pounds[i]), left[i]);
        }
        Check.due("1, old: half of 1 is none", goAt("shaded 0 1 1", "old 0 0", 0, 1), 1);
        Check.due("1, old, six hours", goAt("shaded 0 1 6", "old 0 0", 0, 1), 1);
        // The half is of all: twice 3, half; 3 and 2, half; twice 3 and 2, half.
        Check.due("4 at noon", goAt("shaded 0 1 1", "cart 0 0", 10, 4), 1);
        Check.due("4, warm", goAt("shaded 0 1 1", "cart 0 0;warm 0", 0, 4), 2);
        Check.due("9 at warm noon", goAt("shaded 0 1 1", "cart 0 0;warm 10", 10, 9), 3);
        Check.due("1 at noon: half of 4 is 2, 1 at most", goAt("shaded 0 1 1", "cart 0 0", 10, 1), 0);
        // Were it 3 at most first, half of that would be 1.
        Check.due("3 at warm noon: half of 8, 3 at most", goAt("shaded 0 1 1", "cart 0 0;warm 10", 10, 3), 0);
    }

    // ---- promise 14

    /** "A CART RESTS n HOURS (1 .. 48): SNOW. UNKNOWN; OUTSIDE". */
    private static void restUnknownOrOutside() {
        Twins at = Worlds.of(EACH_KIND);
        for (int cart : NO_CART) {
            at.unchanged("rest(" + cart + ", 1)", x -> x.rest(cart, 1), UNKNOWN);
            at.unchanged("rest(" + cart + ", 49)", x -> x.rest(cart, 49), UNKNOWN);
        }
        int[] outside = {MIN, -1, 0, 49, MAX};
        Twins late = new Twins("hour 48", x -> {
            Check.tell(x, EACH_KIND);
            x.rest(0, 48);
        });
        for (int n : outside) {
            at.unchanged("rest(0, " + n + ")", x -> x.rest(0, n), OUTSIDE);
            late.unchanged("rest(0, " + n + ")", x -> x.rest(0, n), OUTSIDE);
        }
        Check.due("the last of four carts", Worlds.full().fresh().rest(3, 1), 0);
    }

    /** "FULL: later than HOUR 48". */
    private static void restLaterThan48() {
        int[] hours = {1, 2, 24, 47};
        SnowCourse all = Worlds.of(EACH_KIND).answers("rest(0, 48)", x -> x.rest(0, 48), 0);
        Check.due("cart(0, 3)", all.cart(0, 3), 48);
        for (int hour : hours) {
            Twins at = new Twins("hour " + hour, x -> {
                Check.tell(x, EACH_KIND);
                x.rest(0, hour);
                x.fill(0, 40);
            });
            at.unchanged("rest(0, " + (49 - hour) + ")", x -> x.rest(0, 49 - hour), FULL);
            at.unchanged("rest(0, 48)", x -> x.rest(0, 48), FULL);
            SnowCourse x = at.fresh();
            x.rest(0, 48 - hour);
            Check.due("cart(0, 3)", x.cart(0, 3), 48);
            Check.due("rest(0, 1) in hour 48", x.rest(0, 1), FULL);
        }
    }

    /** "It RESTS where it is"; hour by hour; "in a CELLAR nothing". */
    private static void restLoses() {
        String[] places = {"crossing", "mountain", "city"};
        for (String place : places) {
            // 50 is 42 behind the road, and 35 behind an hour there.
            SnowCourse x = Check.told("mountain;" + place + ";road 0 1 1;cart 0 0;warm 5");
            x.fill(0, 50);
            x.go(0, 0);
            Check.due("rest in a " + place, x.rest(0, 1), 35);
            // 29 23 18, then 11 in the warm hour, 7, 4, 1, 0.
            Check.due("rest in a " + place, x.rest(0, 3), 18);
            Check.due("rest in a warm hour", x.rest(0, 1), 11);
            Check.due("rest to 1", x.rest(0, 3), 1);
            Check.due("rest to nothing", x.rest(0, 1), 0);
            Check.due("rest of nothing", x.rest(0, 38), 0);
        }
        SnowCourse y = Check.told("mountain;cellar;road 0 1 1;cart 0 0;warm 5");
        y.fill(0, 50);
        y.go(0, 0);
        Check.due("rest in a cellar", y.rest(0, 47), 42);
        Check.due("cart(0, 3)", y.cart(0, 3), 48);
    }

    // ---- promise 15

    /** "UNKNOWN (no such .. CART; one and itself, where two are asked)", ahead of NOT and FULL. */
    private static void joinUnknown() {
        Twins at = new Twins("99 pounds", x -> {
            Check.tell(x, EACH_KIND);
            x.fill(0, 99);
        });
        for (int cart : NO_CART) {
            at.unchanged("join(" + cart + ", 0)", x -> x.join(cart, 0), UNKNOWN);
            at.unchanged("join(0, " + cart + ")", x -> x.join(0, cart), UNKNOWN);
            at.unchanged("join(" + cart + ", " + cart + ")", x -> x.join(cart, cart), UNKNOWN);
        }
        for (int cart = 0; cart < 4; cart++) {
            int c = cart;
            at.unchanged("join(" + c + ", " + c + ")", x -> x.join(c, c), UNKNOWN);
        }
    }

    /** "NOT: they are not in one PLACE", ahead of FULL. */
    private static void joinInOnePlace() {
        Twins at = new Twins("apart", x -> {
            Check.tell(x, "mountain;mountain;road 0 1 1;cart 0 0;cart 1 0;cart 1 0;cart 0 0");
            for (int cart = 0; cart < 4; cart++) {
                x.fill(cart, 60);
            }
        });
        at.unchanged("join(0, 1)", x -> x.join(0, 1), NOT);
        at.unchanged("join(2, 3)", x -> x.join(2, 3), NOT);
        at.unchanged("join(0, 3)", x -> x.join(0, 3), FULL);
        // Where they are matters, not where they were at first.
        SnowCourse x = at.fresh();
        x.go(0, 0);
        Check.due("join(0, 3), gone", x.join(0, 3), NOT);
        // 60 - 8 = 52 of both; 60 - 8 = 52 in the rest of the second, too.
        Check.due("join(0, 1), come", x.join(0, 1), FULL);
        x.rest(0, 2);
        // 52 44 37; the other one 60 52 44 37.
        Check.due("join(0, 1), both in hour 3", x.join(0, 1), 74);
    }

    /** "FULL: above 99 together then". */
    private static void joinAbove99() {
        int[][] pairs = {{50, 49, 99}, {50, 50, FULL}, {99, 1, FULL}, {1, 98, 99}};
        for (int[] pair : pairs) {
            Twins at = new Twins(pair[0] + " and " + pair[1], x -> {
                Check.tell(x, "mountain;cart 0 0;stamped 0 3");
                x.fill(0, pair[0]);
                x.fill(1, pair[1]);
            });
            if (pair[2] == FULL) {
                at.unchanged("join(0, 1)", x -> x.join(0, 1), FULL);
                at.unchanged("join(1, 0)", x -> x.join(1, 0), FULL);
            } else {
                at.answers("join(0, 1)", x -> x.join(0, 1), pair[2]);
                at.answers("join(1, 0)", x -> x.join(1, 0), pair[2]);
            }
        }
        Twins one = new Twins("99 and nothing", x -> {
            Check.tell(x, "mountain;cart 0 0;cart 0 0");
            x.fill(0, 99);
        });
        one.answers("join(0, 1)", x -> x.join(0, 1), 99);
        one.answers("join(1, 0)", x -> x.join(1, 0), 99);
        // "then": 64 is 55 when the first one has rested, and 55 and 44 are 99.
        for (int more = 0; more <= 1; more++) {
            int n = 44 + more;
            Twins at = new Twins("64 of hour 0, " + n + " of hour 1", x -> {
                Check.tell(x, "mountain;cart 0 0;cart 0 0");
                x.fill(0, 64);
                x.rest(1, 1);
                x.fill(1, n);
            });
            if (more == 0) {
                at.answers("join(0, 1)", x -> x.join(0, 1), 99);
                at.answers("join(1, 0)", x -> x.join(1, 0), 99);
            } else {
                at.unchanged("join(0, 1)", x -> x.join(0, 1), FULL);
                at.unchanged("join(1, 0)", x -> x.join(1, 0), FULL);
            }
        }
    }

    /** "whose HOUR is the lesser one RESTS till the HOUR of the other one"; "it is there still, without SNOW, in that HOUR, too". */
    private static void joinTillTheLaterHour() {
        // The stamped one loses 7 - 2, then 6 - 2: 31; the plain one rests two hours: 40 33 27.
        for (int first = 0; first <= 1; first++) {
            int c = first;
            SnowCourse x = Check.told("mountain;cart 0 0;stamped 0 0");
            x.fill(0, 40);
            x.fill(1, 40);
            x.rest(1, 2);
            Check.due("cart(1, 4)", x.cart(1, 4), 31);
            Check.due("join(" + c + ", " + (1 - c) + ")", x.join(c, 1 - c), 58);
            for (int cart = 0; cart <= 1; cart++) {
                Check.due("hour of cart " + cart, x.cart(cart, 3), 2);
                Check.due("snow of cart " + cart, x.cart(cart, 4), cart == c ? 58 : 0);
                Check.due("place of cart " + cart, x.cart(cart, 2), 0);
            }
            Check.due("place(0, 3)", x.place(0, 3), 3);
            Check.due("count(9)", x.count(9), 4);
        }
        SnowCourse y = Check.told("mountain;cellar;road 0 1 1;cart 0 0;cart 0 0");
        y.fill(0, 40);
        y.go(0, 0);
        y.go(1, 0);
        y.rest(1, 47);
        Check.due("join in hour 48, rested in a cellar", y.join(1, 0), 33);
        Check.due("cart(0, 3)", y.cart(0, 3), 48);
        Check.due("join of nothing", y.join(0, 1), 33);
        Check.due("join of nothing to nothing", Check.told("city;cart 0 0;cart 0 0").join(0, 1), 0);
        SnowCourse z = Check.told("mountain;cart 0 0;cart 0 0");
        z.fill(0, 40);
        z.rest(1, 48);
        Check.due("join behind a rest of 48 hours", z.join(1, 0), 0);
        Check.due("cart(0, 3)", z.cart(0, 3), 48);
    }

    // ---- promise 16

    /** "UNKNOWN; NOT: it is in none". */
    private static void storeInNoCellar() {
        Twins at = new Twins("a cart in each", x -> {
            Check.tell(x, EACH_KIND);
            x.fill(0, 30);
        });
        for (int cart : NO_CART) {
            at.unchanged("store(" + cart + ")", x -> x.store(cart), UNKNOWN);
        }
        at.unchanged("store(0) on a mountain", x -> x.store(0), NOT);
        at.unchanged("store(1) in a city", x -> x.store(1), NOT);
        at.unchanged("store(3) at a crossing", x -> x.store(3), NOT);
        SnowCourse x = at.answers("store(2) of nothing in an empty cellar", y -> y.store(2), 0);
        Check.due("count(9): it is a deed", x.count(9), 2);
        Check.due("place(2, 1)", x.place(2, 1), 0);
    }

    /** So much is stored, and a second cart has come with so much; below 25 pounds they lose nothing on the way. */
    private static Twins stock(int first, int second) {
        return new Twins("stock of " + first + " and " + second, x -> {
            Check.tell(x, "mountain;cellar;road 0 1 1;stamped 0 3;stamped 0 3");
            x.fill(0, first);
            x.go(0, 0);
            x.store(0);
            if (second > 0) {
                x.fill(1, second);
            }
            x.go(1, 0);
        });
    }

    /** "OPENED a CELLAR loses ROOT of its STOCK; what is STORED in it .. comes .. behind that". */
    private static void storeOpens() {
        stock(1, 0).answers("store of nothing on 1", x -> x.store(1), 0);
        stock(2, 0).answers("store of nothing on 2", x -> x.store(1), 1);
        stock(3, 0).answers("store of nothing on 3", x -> x.store(1), 2);
        stock(4, 0).answers("store of nothing on 4", x -> x.store(1), 2);
        stock(15, 10).answers("store of 10 on 15", x -> x.store(1), 22);
        stock(16, 10).answers("store of 10 on 16", x -> x.store(1), 22);
        SnowCourse x = stock(16, 20).answers("store of 20 on 16", y -> y.store(1), 32);
        Check.due("place(1, 1)", x.place(1, 1), 32);
        Check.due("cart(1, 4): all of it", x.cart(1, 4), 0);
        Check.due("cart(1, 3)", x.cart(1, 3), 1);
        Check.due("store(0): opened again", x.store(0), 27);
    }

    /** Stock of 955, and a cart with so many pounds in the cellar; 955 loses 30 when it is opened. */
    private static void nearlyFull(SnowCourse x, int pounds) {
        Check.tell(x, "mountain;cellar;road 0 1 1;stamped 0 3;stamped 0 3;stamped 0 3;stamped 0 3");
        int stock = 0;
        for (int i = 0; i < 100 && stock != 955; i++) {
            int cart = i % 3;
            int opened = stock - (int) Math.sqrt(stock);
            int asked = Math.min(89, 955 - opened);
            bring(x, cart, asked);
            stock = x.store(cart);
            x.go(cart, 0);
        }
        Check.due("stock", stock, 955);
        bring(x, 3, pounds);
    }

    /** Fills so much that as many pounds come to the cellar; a stamped cart with straw 3 loses root - 4, twice at noon. */
    private static void bring(SnowCourse x, int cart, int pounds) {
        int hour = x.cart(cart, 3) % 24;
        int times = hour >= 10 && hour <= 15 ? 2 : 1;
        for (int n = pounds; n <= 99; n++) {
            if (n - times * Math.max(0, (int) Math.sqrt(n) - 4) == pounds) {
                x.fill(cart, n);
                Check.due("go with " + n, x.go(cart, 0), pounds);
                return;
            }
        }
        Check.due("how to bring " + pounds, 0, 1);
    }

    /** "FULL: STOCK above 999", behind the opening. */
    private static void storeAbove999() {
        Twins just = new Twins("stock for 999", x -> nearlyFull(x, 74));
        SnowCourse x = just.answers("store(3)", y -> y.store(3), 999);
        Check.due("place(1, 1)", x.place(1, 1), 999);
        Check.due("count(6)", x.count(6), 999);
        Check.due("store of nothing on 999", x.store(3), 968);
        new Twins("stock for 1000", y -> nearlyFull(y, 75)).unchanged("store(3)", y -> y.store(3), FULL);
        new Twins("stock for 1019", y -> nearlyFull(y, 94)).unchanged("store(3)", y -> y.store(3), FULL);
    }

    // ---- promise 17

    /** "n pounds (1 .. 99) are TAKEN .. UNKNOWN; OUTSIDE; NOT: it is in none". */
    private static void takeUnknownOrOutside() {
        Twins at = new Twins("a cart in each", x -> {
            Check.tell(x, EACH_KIND);
            x.fill(0, 30);
        });
        int[] outside = {MIN, -1, 0, 100, MAX};
        for (int cart : NO_CART) {
            at.unchanged("take(" + cart + ", 1)", x -> x.take(cart, 1), UNKNOWN);
            at.unchanged("take(" + cart + ", 0)", x -> x.take(cart, 0), UNKNOWN);
        }
        for (int n : outside) {
            for (int cart = 0; cart < 4; cart++) {
                int c = cart;
                at.unchanged("take(" + c + ", " + n + ")", x -> x.take(c, n), OUTSIDE);
            }
            stock(20, 5).unchanged("take(1, " + n + ")", x -> x.take(1, n), OUTSIDE);
        }
        for (int cart = 0; cart < 4; cart++) {
            int c = cart;
            at.unchanged("take(" + c + ", 1), in none or of none", x -> x.take(c, 1), NOT);
            at.unchanged("take(" + c + ", 99), in none or of none", x -> x.take(c, 99), NOT);
        }
        // A cart that has left the cellar is in none.
        Twins gone = new Twins("gone", x -> {
            Check.tell(x, "mountain;cellar;road 0 1 1;stamped 0 3");
            x.fill(0, 20);
            x.go(0, 0);
            x.store(0);
            x.go(0, 0);
        });
        gone.unchanged("take(0, 1)", x -> x.take(0, 1), NOT);
        gone.unchanged("store(0)", x -> x.store(0), NOT);
    }

    /** "NOT: .. STOCK is less (behind its opening)". */
    private static void takeOfLess() {
        stock(1, 0).unchanged("take 1 of 1", x -> x.take(1, 1), NOT);
        SnowCourse two = stock(2, 0).answers("take 1 of 2", x -> x.take(1, 1), 1);
        Check.due("place(1, 1)", two.place(1, 1), 0);
        stock(2, 0).unchanged("take 2 of 2", x -> x.take(1, 2), NOT);
        stock(20, 0).unchanged("take 17 of 20", x -> x.take(1, 17), NOT);
        stock(20, 0).unchanged("take 20 of 20", x -> x.take(1, 20), NOT);
        SnowCourse all = stock(20, 3).answers("take 16 of 20", x -> x.take(1, 16), 19);
        Check.due("place(1, 1)", all.place(1, 1), 0);
        Check.due("cart(1, 4)", all.cart(1, 4), 19);
        SnowCourse some = stock(20, 3).answers("take 1 of 20", x -> x.take(1, 1), 4);
        Check.due("place(1, 1)", some.place(1, 1), 15);
        // Each taking opens it: 15 - 3 = 12.
        Check.due("take 13 of 15", some.take(1, 13), NOT);
        Check.due("take 12 of 15", some.take(1, 12), 16);
    }

    /** "FULL: SNOW above 99", behind NOT. */
    private static void takeAbove99() {
        Twins at = new Twins("80 pounds at a stock of 24", x -> {
            Check.tell(x, "mountain;cellar;road 0 1 1;stamped 0 3;stamped 0 3");
            x.fill(0, 24);
            x.go(0, 0);
            x.store(0);
            // 85 - (9 - 4) = 80
            x.fill(1, 85);
            x.go(1, 0);
        });
        at.answers("cart(1, 4)", x -> x.cart(1, 4), 80);
        at.answers("take(1, 19)", x -> x.take(1, 19), 99);
        at.unchanged("take(1, 20)", x -> x.take(1, 20), FULL);
        at.unchanged("take(1, 21), more than there is, too", x -> x.take(1, 21), NOT);
        at.unchanged("take(1, 99), more than there is, too", x -> x.take(1, 99), NOT);
        at.unchanged("take(1, 100)", x -> x.take(1, 100), OUTSIDE);
        Twins much = new Twins("a stock of 999", x -> nearlyFull(x, 74));
        SnowCourse x = much.fresh();
        x.store(3);
        Check.due("take 99 of 999", x.take(3, 99), 99);
        Check.due("place(1, 1)", x.place(1, 1), 869);
        Check.due("take 1 more", x.take(3, 1), FULL);
        Check.due("place(1, 1): not opened", x.place(1, 1), 869);
    }

    // ---- promise 18

    /** "UNKNOWN; NOT: it is in no CITY". */
    private static void sellInNoCity() {
        Twins at = new Twins("a cart in each", x -> {
            Check.tell(x, EACH_KIND);
            x.fill(0, 30);
        });
        for (int cart : NO_CART) {
            at.unchanged("sell(" + cart + ")", x -> x.sell(cart), UNKNOWN);
        }
        at.unchanged("sell(0) on a mountain", x -> x.sell(0), NOT);
        at.unchanged("sell(2) in a cellar", x -> x.sell(2), NOT);
        at.unchanged("sell(3) at a crossing", x -> x.sell(3), NOT);
        SnowCourse x = at.answers("sell(1) of nothing", y -> y.sell(1), 0);
        Check.due("count(9): it is a deed", x.count(9), 2);
        Check.due("count(4)", x.count(4), 0);
    }

    /** "PRICE of a pound in an HOUR of a day"; "SNOW is gone, and so much is GOT". */
    private static void sellByTheHour() {
        int[] hours = {1, 5, 6, 11, 12, 17, 18, 23, 24, 29, 30, 35, 36, 41, 42, 47, 48};
        int[] prices = {4, 4, 3, 3, 5, 5, 2, 2, 4, 4, 3, 3, 5, 5, 2, 2, 4};
        for (int i = 0; i < hours.length; i++) {
            SnowCourse x = Check.told("mountain;city;road 0 1 1;stamped 0 3");
            if (hours[i] > 1) {
                x.rest(0, hours[i] - 1);
            }
            x.fill(0, 10);
            x.go(0, 0);
            Check.due("sell(0) in hour " + hours[i], x.sell(0), 10 * prices[i]);
            Check.due("count(4)", x.count(4), 10 * prices[i]);
            Check.due("cart(0, 4)", x.cart(0, 4), 0);
            Check.due("cart(0, 3)", x.cart(0, 3), hours[i]);
            Check.due("sell(0) again", x.sell(0), 0);
            Check.due("count(4)", x.count(4), 10 * prices[i]);
        }
    }

    // ---- promise 19

    /** "NOT: none." */
    private static void undoNone() {
        Worlds.fresh().unchanged("undo()", x -> x.undo(), NOT);
        Twins told = new Twins("a text alone", x -> {
            Check.tell(x, EACH_KIND);
            x.keep(0);
            x.taker(3);
            x.put(3);
            Check.write(x, "ci");
        });
        told.unchanged("undo()", x -> x.undo(), NOT);
        Twins undone = new Twins("all undone", x -> {
            Check.tell(x, EACH_KIND);
            x.fill(0, 5);
            x.rest(0, 1);
            x.undo();
            x.undo();
        });
        undone.unchanged("undo()", x -> x.undo(), NOT);
        Twins back = new Twins("behind back()", x -> {
            Check.tell(x, EACH_KIND);
            x.fill(0, 5);
            x.keep(0);
            x.fill(0, 5);
            x.back(0);
        });
        back.unchanged("undo()", x -> x.undo(), NOT);
    }

    /** "the last 8 can be": how many can be undone yet, by any number of deeds. */
    private static void undoTheLastEight() {
        for (int deeds = 1; deeds <= 30; deeds++) {
            SnowCourse x = Check.told("mountain;cart 0 0");
            for (int i = 1; i <= deeds; i++) {
                x.fill(0, 1);
            }
            int can = Math.min(deeds, 8);
            Check.due("count(9) behind " + deeds, x.count(9), can);
            for (int i = 1; i <= can; i++) {
                Check.due("undo() " + i + " of " + deeds, x.undo(), can - i);
                Check.due("cart(0, 4)", x.cart(0, 4), deeds - i);
            }
            Check.due("undo() beyond them", x.undo(), NOT);
            Check.due("cart(0, 4)", x.cart(0, 4), deeds - can);
        }
        // Undone in the middle, and gone on from there.
        SnowCourse y = Check.told("mountain;cart 0 0");
        for (int i = 0; i < 12; i++) {
            y.fill(0, 1);
        }
        for (int i = 0; i < 5; i++) {
            y.undo();
        }
        Check.due("count(9)", y.count(9), 3);
        for (int i = 0; i < 4; i++) {
            y.fill(0, 10);
        }
        Check.due("cart(0, 4)", y.cart(0, 4), 47);
        Check.due("count(9)", y.count(9), 7);
        int[] left = {37, 27, 17, 7, 6, 5, 4};
        for (int i = 0; i < left.length; i++) {
            Check.due("undo()", y.undo(), 6 - i);
            Check.due("cart(0, 4)", y.cart(0, 4), left[i]);
        }
        Check.due("undo()", y.undo(), NOT);
    }

    /** "The latest of these deeds (fill() to sell()) is undone": all of it, and nothing else. */
    private static void undoDeedsAlone() {
        Twins five = new Twins("five deeds", x -> {
            Check.tell(x, Worlds.BUSY + ";cart 0 1");
            x.fill(0, 60);
            x.fill(1, 50);
            x.go(0, 0);
            x.store(0);
            x.keep(1);
            x.go(1, 2);
            x.taker(3);
            x.put(20);
            Check.write(x, "calm");
        });
        five.unchanged("fill(), undo()", x -> { x.fill(3, 9); return x.undo(); }, 5);
        five.unchanged("go(), undo()", x -> { x.go(0, 1); return x.undo(); }, 5);
        five.unchanged("rest(), undo()", x -> { x.rest(1, 3); return x.undo(); }, 5);
        five.unchanged("join(), undo()", x -> { x.join(2, 0); return x.undo(); }, 5);
        five.unchanged("store(), undo()", x -> { x.store(2); return x.undo(); }, 5);
        five.unchanged("take(), undo()", x -> { x.take(2, 5); return x.undo(); }, 5);
        five.unchanged("sell(), undo()", x -> { x.sell(1); return x.undo(); }, 5);
        // Takers, loads, letters and what is kept are no deeds.
        SnowCourse x = five.fresh();
        x.taker(4);
        x.put(5);
        x.keep(0);
        x.write(59);
        Check.due("undo()", x.undo(), 4);
        Check.due("cart(1, 2): the way is undone", x.cart(1, 2), 0);
        Check.due("count(7)", x.count(7), 2);
        Check.due("count(8)", x.count(8), 2);
        Check.due("count(10)", x.count(10), 5);
        Check.due("back(0)", x.back(0), 0);
        Check.due("cart(1, 2): it was kept", x.cart(1, 2), 2);
        // Refused deeds are none.
        SnowCourse y = five.fresh();
        Check.due("a refused fill", y.fill(0, 1), NOT);
        Check.due("a refused go", y.go(0, 3), NOT);
        Check.due("a refused rest", y.rest(0, 48), FULL);
        Check.due("a refused join", y.join(0, 1), NOT);
        Check.due("a refused store", y.store(1), NOT);
        Check.due("a refused take", y.take(0, 99), NOT);
        Check.due("a refused sell", y.sell(0), NOT);
        Check.due("count(9)", y.count(9), 5);
        Check.due("undo()", y.undo(), 4);
        Check.due("cart(1, 2)", y.cart(1, 2), 0);
    }

    // ---- promises 20, 21

    /** "All as it is by deeds is kept (k 0, 1; not TAKERS, THE ROW, what can be undone): k. UNKNOWN: no such k." */
    private static void keep() {
        int[] unknown = {MIN, -1, 2, MAX};
        for (int k : unknown) {
            Worlds.fresh().unchanged("keep(" + k + ")", x -> x.keep(k), UNKNOWN);
            Worlds.busy().unchanged("keep(" + k + ")", x -> x.keep(k), UNKNOWN);
        }
        SnowCourse x = Worlds.busy().fresh();
        int can = x.count(9);
        Check.due("keep(0)", x.keep(0), 0);
        Check.due("keep(1)", x.keep(1), 1);
        Check.due("count(9): as it was", x.count(9), can);
        Check.due("undo()", x.undo(), can - 1);
        Check.due("cart(2, 4)", x.cart(2, 4), 0);
        // What is kept does not go on with what is.
        Check.due("back(0)", x.back(0), 0);
        Check.due("cart(2, 4)", x.cart(2, 4), 20);
        x.rest(2, 9);
        x.store(2);
        Check.due("back(1)", x.back(1), 1);
        Check.due("cart(2, 3)", x.cart(2, 3), 0);
        Check.due("cart(2, 4)", x.cart(2, 4), 20);
    }

    /** "It is as it was kept, nothing can be undone: k. UNKNOWN; NOT: nothing was kept since the last text." */
    private static void back() {
        int[] unknown = {MIN, -1, 2, MAX};
        for (int k : unknown) {
            Worlds.fresh().unchanged("back(" + k + ")", x -> x.back(k), UNKNOWN);
            Worlds.busy().unchanged("back(" + k + ")", x -> x.back(k), UNKNOWN);
        }
        Worlds.busy().unchanged("back(0)", x -> x.back(0), NOT);
        SnowCourse x = Worlds.busy().answers("back(1)", y -> y.back(1), 1);
        // As behind store() there: the first in the cellar without snow, the second on the mountain with 50.
        int[][] carts = {{1, 1, 0}, {0, 0, 50}, {1, 0, 0}};
        for (int cart = 0; cart < 3; cart++) {
            for (int what = 2; what <= 4; what++) {
                Check.due("cart(" + cart + ", " + what + ")", x.cart(cart, what), carts[cart][what - 2]);
            }
        }
        Check.due("place(1, 1)", x.place(1, 1), 52);
        Check.due("count(4)", x.count(4), 0);
        Check.due("count(7): takers are", x.count(7), 2);
        Check.due("count(8): the row is", x.count(8), 2);
        Check.due("count(9)", x.count(9), 0);
        Check.due("count(10): the text is", x.count(10), 13);
        Check.due("undo()", x.undo(), NOT);
        Check.due("back(1) again", x.back(1), 1);
        Check.due("back(0)", x.back(0), NOT);
        // Each of both by itself, and kept anew.
        SnowCourse y = Check.told("mountain;cart 0 0");
        y.keep(0);
        y.fill(0, 5);
        y.keep(1);
        y.fill(0, 7);
        Check.due("back(0)", y.back(0), 0);
        Check.due("cart(0, 4)", y.cart(0, 4), 0);
        Check.due("back(1)", y.back(1), 1);
        Check.due("cart(0, 4)", y.cart(0, 4), 5);
        y.keep(0);
        y.fill(0, 1);
        Check.due("back(0)", y.back(0), 0);
        Check.due("cart(0, 4)", y.cart(0, 4), 5);
        // "since the last text"; a refused text is none.
        Check.write(y, "cal");
        Check.due("land()", y.land(), NOT);
        Check.due("back(0)", y.back(0), 0);
        y.write('m');
        Check.due("land()", y.land(), 1);
        Check.due("back(0)", y.back(0), NOT);
        Check.due("back(1)", y.back(1), NOT);
        y.keep(1);
        Check.due("back(1)", y.back(1), 1);
        Check.due("back(0)", y.back(0), NOT);
        Check.due("cart(0, 4)", y.cart(0, 4), 0);
    }

    /** "nothing can be undone" behind back(), but what is done from there on. */
    private static void backAndUndo() {
        SnowCourse x = Check.told("mountain;cart 0 0");
        for (int i = 0; i < 8; i++) {
            x.fill(0, 1);
        }
        x.keep(0);
        x.fill(0, 1);
        x.back(0);
        Check.due("count(9)", x.count(9), 0);
        x.fill(0, 20);
        x.fill(0, 20);
        Check.due("count(9)", x.count(9), 2);
        Check.due("undo()", x.undo(), 1);
        Check.due("cart(0, 4)", x.cart(0, 4), 28);
        Check.due("undo()", x.undo(), 0);
        Check.due("cart(0, 4)", x.cart(0, 4), 8);
        Check.due("undo()", x.undo(), NOT);
        Check.due("cart(0, 4)", x.cart(0, 4), 8);
    }

    /** "An object is used for at most 512 calls": it answers as ever up to the last one of them. */
    private static void theLastOf512Calls() {
        String text = "mountain;cart 0 0";
        SnowCourse x = Check.told(text);
        for (int call = text.length() + 3; call <= 512; call++) {
            if (call % 2 == 0) {
                Check.due("fill(0, 7), call " + call, x.fill(0, 7), 7);
            } else {
                Check.due("undo(), call " + call, x.undo(), 0);
            }
        }
    }
}
