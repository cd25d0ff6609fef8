/** Edges of promises 22 to 36; each method is headed by the words of ../shared/DOC.md that it looks at. */
final class ForetoldEdgesTest {
    private static final int NONE = -1, UNKNOWN = -2, OUTSIDE = -3, NOT = -4, FULL = -5;
    private static final int MIN = Integer.MIN_VALUE, MAX = Integer.MAX_VALUE;
    private static final int[] NO_CART = {MIN, -1, 4, MAX};
    private static final int[] NO_PLACE = {MIN, -1, 7, MAX};
    private static final int[] NO_ROAD = {MIN, -1, 9, MAX};

    public static void main(String[] args) {
        nothingChanges();
        comesRefused();
        comesUpTo48();
        comesWhereItIs();
        comesSoonest();
        comesUnlike();
        strawRefused();
        strawLeast();
        strawByHour();
        meetRefused();
        meetOf99();
        meetUpTo48();
        takers();
        leftRefused();
        leftBySets();
        leftOfTooLittle();
        dripRefused();
        dripUpTo48();
        dripByBits();
        sealRefused();
        sealAtItsEnds();
        rentRefused();
        rentUpTo48();
        rentByTheHourOfComing();
        aroundRefused();
        aroundItself();
        aroundFewest();
        row();
        passRefused();
        passOfFew();
        passOfFive();
        passFirstRow();
        windsRefused();
        windsAtTheirEnds();
        countRefused();
        countAtTheMost();
        Check.end();
    }

    /** "FORETOLD (nothing changes)". */
    private static void nothingChanges() {
        Twins at = Worlds.busy();
        for (int what = 0; what <= 2; what++) {
            int w = what;
            at.unchanged("comes(0, 2, " + w + ")", x -> Math.min(0, x.comes(0, 2, w)), 0);
            at.unchanged("around(0, 3, " + w + ")", x -> Math.min(0, x.around(0, 3, w)), 0);
        }
        for (int what = 0; what <= 1; what++) {
            int w = what;
            at.unchanged("meet(2, 0, 2, " + w + ")", x -> Math.min(0, x.meet(2, 0, 2, w)), 0);
            at.unchanged("left(60, 60, " + w + ")", x -> Math.min(0, x.left(60, 60, w)), 0);
            at.unchanged("seal(60, 6, 5, " + w + ")", x -> Math.min(0, x.seal(60, 6, 5, w)), 0);
            at.unchanged("winds(60, 24, 60, " + w + ")", x -> Math.min(0, x.winds(60, 24, 60, w)), 0);
            at.unchanged("pass(6, " + w + ")", x -> Math.min(0, x.pass(6, w)), 0);
        }
        at.unchanged("straw(2, 2, 9, 40)", x -> Math.min(0, x.straw(2, 2, 9, 40)), 0);
        at.unchanged("drip(2, 2, 9)", x -> Math.min(0, x.drip(2, 2, 9)), 0);
        at.unchanged("rent(2, 0, 1)", x -> Math.min(0, x.rent(2, 0, 1)), 0);
        at.unchanged("pass(6, NONE)", x -> Math.min(0, x.pass(6, NONE)), 0);
        // Nor does one foretelling leave anything for the next one.
        SnowCourse x = Worlds.full().fresh();
        x.fill(3, 99);
        x.fill(0, 50);
        int[] first = {x.comes(0, 2, 0), x.meet(0, 3, 2, 0), x.straw(0, 2, 30, 9), x.comes(1, 2, 0), x.around(3, 0, 2)};
        int[] again = {x.comes(0, 2, 0), x.meet(0, 3, 2, 0), x.straw(0, 2, 30, 9), x.comes(1, 2, 0), x.around(3, 0, 2)};
        for (int i = 0; i < first.length; i++) {
            Check.due("asked again, " + i, again[i], first[i]);
        }
    }

    // ---- promise 22

    /** "the most (what 0), the soonest HOUR (1), how many unlike ones (2); NONE. UNKNOWN; OUTSIDE." */
    private static void comesRefused() {
        Twins at = Worlds.full();
        for (int cart : NO_CART) {
            at.unchanged("comes(" + cart + ", 0, 0)", x -> x.comes(cart, 0, 0), UNKNOWN);
            at.unchanged("comes(" + cart + ", 0, 3)", x -> x.comes(cart, 0, 3), UNKNOWN);
        }
        for (int place : NO_PLACE) {
            at.unchanged("comes(0, " + place + ", 0)", x -> x.comes(0, place, 0), UNKNOWN);
            at.unchanged("comes(0, " + place + ", 3)", x -> x.comes(0, place, 3), UNKNOWN);
        }
        int[] outside = {MIN, -1, 3, MAX};
        for (int what : outside) {
            at.unchanged("comes(3, 6, " + what + ")", x -> x.comes(3, 6, what), OUTSIDE);
            Worlds.of("mountain;city;cart 0 0").unchanged("comes(0, 1, " + what + "), without a way",
                    x -> x.comes(0, 1, what), OUTSIDE);
        }
        at.answers("comes(3, 6, 0), the last of both", x -> x.comes(3, 6, 0), 0);
        at.answers("comes(3, 6, 1)", x -> x.comes(3, 6, 1), 0);
        at.answers("comes(3, 6, 2)", x -> x.comes(3, 6, 2), 1);
        Twins three = Worlds.of("mountain;city;cart 0 0;cart 0 0;cart 0 0");
        three.answers("a fourth of three", x -> x.comes(3, 0, 0), UNKNOWN);
        three.answers("a third of two places", x -> x.comes(2, 2, 0), UNKNOWN);
    }

    /** "in all HOURS up to 48"; "none: it cannot come". */
    private static void comesUpTo48() {
        for (int hours = 1; hours <= 6; hours++) {
            String country = "mountain;city;road 0 1 " + hours + ";stamped 0 3";
            SnowCourse x = Check.told(country);
            x.rest(0, 48 - hours);
            x.fill(0, 5);
            int[] due = {5, 48, 1};
            SnowCourse late = Check.told(country);
            late.rest(0, 49 - hours);
            late.fill(0, 5);
            for (int what = 0; what <= 2; what++) {
                Check.due("comes just in hour 48, " + what, x.comes(0, 1, what), due[what]);
                Check.due("comes in hour 49, " + what, late.comes(0, 1, what), NONE);
            }
        }
        // By two roads, that take it to hour 48, or beyond.
        SnowCourse y = Check.told("mountain;crossing;city;road 0 1 3;road 1 2 2;cart 0 0;cart 0 0");
        y.rest(0, 43);
        y.rest(1, 44);
        Check.due("comes by two roads", y.comes(0, 2, 1), 48);
        Check.due("comes by two roads, too late", y.comes(1, 2, 1), NONE);
        Check.due("comes by the first of them", y.comes(1, 1, 1), 47);
        SnowCourse z = Check.told("mountain;city;crossing;road 0 2 1;cart 0 0");
        for (int what = 0; what <= 2; what++) {
            Check.due("comes without a way, " + what, z.comes(0, 1, what), NONE);
        }
    }

    /** "(as much of it as there is; where it is, too)". */
    private static void comesWhereItIs() {
        SnowCourse x = Check.told("mountain;cart 0 0");
        x.rest(0, 48);
        x.fill(0, 99);
        Check.due("comes in hour 48", x.comes(0, 0, 0), 99);
        Check.due("comes in hour 48", x.comes(0, 0, 1), 48);
        Check.due("comes in hour 48", x.comes(0, 0, 2), 1);
        SnowCourse y = Check.told("mountain;cart 0 0");
        y.rest(0, 47);
        y.fill(0, 99);
        Check.due("comes in hour 47", y.comes(0, 0, 0), 99);
        Check.due("comes in hour 47", y.comes(0, 0, 1), 47);
        Check.due("comes in hour 47: 99, 89", y.comes(0, 0, 2), 2);
        SnowCourse empty = Check.told("mountain;city;road 0 1 4;cart 0 0");
        int[] here = {0, 0, 1};
        int[] there = {0, 4, 1};
        for (int what = 0; what <= 2; what++) {
            Check.due("comes of nothing, where it is", empty.comes(0, 0, what), here[what]);
            Check.due("comes of nothing", empty.comes(0, 1, what), there[what]);
        }
    }

    /** "the most; the soonest HOUR with as much". */
    private static void comesSoonest() {
        // The short way has bandits: 20 and 2 less in hour 1; by the long one all 20 come in hour 4.
        SnowCourse x = Check.told("mountain;city;bandits 0 1 1;road 0 1 4;stamped 0 3");
        x.fill(0, 20);
        Check.due("the most", x.comes(0, 1, 0), 20);
        Check.due("the soonest of the most", x.comes(0, 1, 1), 4);
        x.rest(0, 44);
        Check.due("the most, up to hour 48", x.comes(0, 1, 0), 20);
        Check.due("the soonest, up to hour 48", x.comes(0, 1, 1), 48);
        x.rest(0, 1);
        Check.due("the most, too late for the long way", x.comes(0, 1, 0), 18);
        Check.due("the soonest, too late for the long way", x.comes(0, 1, 1), 46);
        // By bandits to and fro: 18 in hour 46, 17 back in 47, 16 in 48.
        Check.due("unlike ones: 18 16", x.comes(0, 1, 2), 2);
        Check.due("unlike ones, where it is: 20 17", x.comes(0, 0, 2), 2);
    }

    /** "how many unlike numbers of pounds may come (0 is one)". */
    private static void comesUnlike() {
        SnowCourse x = Check.told("mountain;city;road 0 1 1;cart 0 0");
        x.fill(0, 1);
        Check.due("1, and 0", x.comes(0, 0, 2), 2);
        Check.due("0 alone", x.comes(0, 1, 2), 1);
        Check.due("0 alone, the most", x.comes(0, 1, 0), 0);
        SnowCourse y = Check.told("mountain;cart 0 0");
        y.fill(0, 9);
        // 9 5 2 0
        Check.due("9 5 2 0", y.comes(0, 0, 2), 4);
        SnowCourse z = Check.told("mountain;stamped 0 3");
        z.fill(0, 24);
        // 24 loses 4 + 1 - 5, that is nothing, all the time; 25 loses 1 in its first hour.
        Check.due("24 alone", z.comes(0, 0, 2), 1);
        z.fill(0, 1);
        Check.due("25, and 24", z.comes(0, 0, 2), 2);
    }

    // ---- promise 23

    /** "LEAST STRAW; NONE. UNKNOWN; OUTSIDE: n (0 .. 99), h (0 .. 48)." */
    private static void strawRefused() {
        Twins at = Worlds.full();
        for (int cart : NO_CART) {
            at.unchanged("straw(" + cart + ", 0, 0, 0)", x -> x.straw(cart, 0, 0, 0), UNKNOWN);
            at.unchanged("straw(" + cart + ", 0, 100, 49)", x -> x.straw(cart, 0, 100, 49), UNKNOWN);
        }
        for (int place : NO_PLACE) {
            at.unchanged("straw(0, " + place + ", 0, 0)", x -> x.straw(0, place, 0, 0), UNKNOWN);
            at.unchanged("straw(0, " + place + ", -1, -1)", x -> x.straw(0, place, -1, -1), UNKNOWN);
        }
        int[] noPounds = {MIN, -1, 100, MAX};
        int[] noHour = {MIN, -1, 49, MAX};
        for (int n : noPounds) {
            at.unchanged("straw(0, 0, " + n + ", 0)", x -> x.straw(0, 0, n, 0), OUTSIDE);
            at.unchanged("straw(0, 5, " + n + ", 48)", x -> x.straw(0, 5, n, 48), OUTSIDE);
        }
        for (int h : noHour) {
            at.unchanged("straw(0, 0, 0, " + h + ")", x -> x.straw(0, 0, 0, h), OUTSIDE);
            at.unchanged("straw(0, 5, 99, " + h + ")", x -> x.straw(0, 5, 99, h), OUTSIDE);
        }
        at.unchanged("straw(3, 6, 0, 0), the last of both", x -> x.straw(3, 6, 0, 0), 0);
        at.unchanged("straw(0, 0, 0, 48)", x -> x.straw(0, 0, 0, 48), 0);
        at.unchanged("straw(0, 0, 1, 48)", x -> x.straw(0, 0, 1, 48), NONE);
        at.unchanged("straw(0, 0, 99, 48)", x -> x.straw(0, 0, 99, 48), NONE);
        Twins loaded = new Twins("99 pounds", x -> {
            Check.tell(x, "mountain;city;cart 0 2");
            x.fill(0, 99);
        });
        loaded.unchanged("straw(0, 0, 99, 0)", x -> x.straw(0, 0, 99, 0), 0);
        loaded.unchanged("straw(0, 0, 99, 48)", x -> x.straw(0, 0, 99, 48), 0);
        loaded.unchanged("straw(0, 1, 0, 48), without a way", x -> x.straw(0, 1, 0, 48), NONE);
    }

    /** "the least STRAW (0 .. 3, in place of its own) by which as many may come; none". */
    private static void strawLeast() {
        // 64 loses 9, 8, 7, 6 by straw 0 .. 3: 55, 56, 57, 58 come.
        for (int own = 0; own <= 3; own++) {
            SnowCourse x = Check.told("mountain;city;road 0 1 1;cart 0 " + own);
            x.fill(0, 64);
            int[] pounds = {0, 54, 55, 56, 57, 58, 59, 64, 65};
            int[] due = {0, 0, 0, 1, 2, 3, NONE, NONE, NONE};
            for (int i = 0; i < pounds.length; i++) {
                Check.due("straw of " + pounds[i] + ", own " + own, x.straw(0, 1, pounds[i], 1), due[i]);
                Check.due("straw of " + pounds[i] + ", own " + own, x.straw(0, 1, pounds[i], 48), due[i]);
            }
            Check.due("cart(0, 1)", x.cart(0, 1), own);
        }
        // Its kind stays its own: 64 loses 7, 6, 5, 4 if stamped.
        SnowCourse y = Check.told("mountain;city;road 0 1 1;stamped 0 3");
        y.fill(0, 64);
        Check.due("straw of 57, stamped", y.straw(0, 1, 57, 48), 0);
        Check.due("straw of 58, stamped", y.straw(0, 1, 58, 48), 1);
        Check.due("straw of 60, stamped", y.straw(0, 1, 60, 48), 3);
        Check.due("straw of 61, stamped", y.straw(0, 1, 61, 48), NONE);
    }

    /** "asked in a PLACE by HOUR h". */
    private static void strawByHour() {
        SnowCourse x = Check.told("mountain;city;bandits 0 1 2;road 0 1 3;cart 0 0");
        x.fill(0, 50);
        // By bandits 42 35, less 3; else 42 35 29; with straw 1 43 37, less 3, with 3 45 41, less 4.
        Check.due("by hour 1", x.straw(0, 1, 0, 1), NONE);
        Check.due("by hour 2", x.straw(0, 1, 0, 2), 0);
        Check.due("32 by hour 2", x.straw(0, 1, 32, 2), 0);
        Check.due("33 by hour 2", x.straw(0, 1, 33, 2), 1);
        Check.due("34 by hour 2", x.straw(0, 1, 34, 2), 1);
        Check.due("35 by hour 2", x.straw(0, 1, 35, 2), 2);
        Check.due("where it is, by hour 0", x.straw(0, 0, 50, 0), 0);
        x.rest(0, 46);
        Check.due("by hour 47", x.straw(0, 1, 0, 47), NONE);
        Check.due("by hour 48", x.straw(0, 1, 0, 48), 0);
        Check.due("where it is, by an hour that is gone", x.straw(0, 0, 0, 45), NONE);
        Check.due("where it is, by its hour", x.straw(0, 0, 0, 46), 0);
        x.rest(0, 1);
        Check.due("by hour 48, too late", x.straw(0, 1, 0, 48), NONE);
        x.rest(0, 1);
        Check.due("where it is, in hour 48", x.straw(0, 0, 0, 48), 0);
        Check.due("where it is, by hour 47", x.straw(0, 0, 0, 47), NONE);
    }

    // ---- promise 24

    /** "UNKNOWN; OUTSIDE"; "one and itself, where two are asked". */
    private static void meetRefused() {
        Twins at = Worlds.full();
        for (int cart : NO_CART) {
            at.unchanged("meet(" + cart + ", 0, 0, 0)", x -> x.meet(cart, 0, 0, 0), UNKNOWN);
            at.unchanged("meet(0, " + cart + ", 0, 0)", x -> x.meet(0, cart, 0, 0), UNKNOWN);
            at.answers("meet(0, " + cart + ", 0, 2)", x -> x.meet(0, cart, 0, 2), UNKNOWN);
            at.answers("meet(" + cart + ", " + cart + ", 0, 0)", x -> x.meet(cart, cart, 0, 0), UNKNOWN);
        }
        for (int place : NO_PLACE) {
            at.unchanged("meet(0, 1, " + place + ", 0)", x -> x.meet(0, 1, place, 0), UNKNOWN);
            at.answers("meet(0, 1, " + place + ", 2)", x -> x.meet(0, 1, place, 2), UNKNOWN);
        }
        for (int cart = 0; cart < 4; cart++) {
            int c = cart;
            at.unchanged("meet(" + c + ", " + c + ", 0, 0)", x -> x.meet(c, c, 0, 0), UNKNOWN);
            at.answers("meet(" + c + ", " + c + ", 0, 2)", x -> x.meet(c, c, 0, 2), UNKNOWN);
        }
        int[] outside = {MIN, -1, 2, MAX};
        for (int what : outside) {
            at.unchanged("meet(2, 3, 6, " + what + ")", x -> x.meet(2, 3, 6, what), OUTSIDE);
            Worlds.of("city;city;cart 0 0;cart 1 0").unchanged("meet(0, 1, 0, " + what + "), without a way",
                    x -> x.meet(0, 1, 0, what), OUTSIDE);
        }
        at.unchanged("meet(2, 3, 6, 0)", x -> x.meet(2, 3, 6, 0), 0);
        at.unchanged("meet(3, 2, 6, 1)", x -> x.meet(3, 2, 6, 1), 0);
        Worlds.of("city;city;cart 0 0;cart 1 0").answers("meet(0, 1, 0, 0)", x -> x.meet(0, 1, 0, 0), NONE);
        Worlds.of("city;city;cart 0 0;cart 1 0").answers("meet(0, 1, 0, 1)", x -> x.meet(0, 1, 0, 1), NONE);
    }

    /** "in which both may be there with no more than 99 pounds together". */
    private static void meetOf99() {
        int[][] pairs = {{50, 49, 99, 0}, {99, 0, 99, 0}, {0, 99, 99, 0}, {50, 50, 84, 1}, {99, 1, 89, 1}, {99, 99, 90, 6}};
        for (int[] pair : pairs) {
            SnowCourse x = Check.told("mountain;cart 0 0;cart 0 0");
            for (int cart = 0; cart < 2; cart++) {
                if (pair[cart] > 0) {
                    x.fill(cart, pair[cart]);
                }
            }
            // 99 is 89 79 70 61 53 45 in hours 1 .. 6, so two of them are 90 at last.
            Check.due("meet of " + pair[0] + " and " + pair[1], x.meet(0, 1, 0, 0), pair[2]);
            Check.due("meet of " + pair[0] + " and " + pair[1], x.meet(1, 0, 0, 0), pair[2]);
            Check.due("hour of " + pair[0] + " and " + pair[1], x.meet(0, 1, 0, 1), pair[3]);
        }
    }

    /** "that GOES and RESTS on as it likes: the most SNOW that may come so to a PLACE up to HOUR 48; the soonest HOUR .. none". */
    private static void meetUpTo48() {
        String country = "mountain;mountain;road 0 1 2;cart 0 0;stamped 1 3";
        SnowCourse x = Check.told(country);
        x.rest(0, 46);
        x.rest(1, 46);
        x.fill(0, 20);
        x.fill(1, 20);
        // The plain one comes with 20 15 11, the stamped one keeps its 20, here or there.
        Check.due("meet in hour 48", x.meet(0, 1, 1, 0), 31);
        Check.due("meet in hour 48", x.meet(0, 1, 1, 1), 48);
        Check.due("meet in hour 48", x.meet(1, 0, 0, 0), 31);
        Check.due("meet in hour 48", x.meet(1, 0, 0, 1), 48);
        SnowCourse late = Check.told(country);
        late.rest(0, 47);
        late.rest(1, 47);
        for (int place = 0; place < 2; place++) {
            for (int what = 0; what < 2; what++) {
                Check.due("meet in hour 49", late.meet(0, 1, place, what), NONE);
            }
        }
        SnowCourse one = Check.told(country);
        one.rest(0, 48);
        Check.due("meet of one in hour 48", one.meet(0, 1, 0, 1), 48);
        Check.due("meet of one in hour 48, elsewhere", one.meet(0, 1, 1, 0), NONE);
        Check.due("meet of one in hour 48, elsewhere", one.meet(1, 0, 1, 0), NONE);
        // Behind the meeting the first one's kind and straw count: a stamped one keeps what a plain one would lose.
        SnowCourse y = Check.told("mountain;city;road 0 1 1;cart 0 0;stamped 0 3");
        y.fill(0, 10);
        y.fill(1, 14);
        // Joined now, 24: stamped it comes as 24, plain as 19; apart 10 comes as 6, 14 as 14.
        Check.due("meet(1, 0, 1, 0)", y.meet(1, 0, 1, 0), 24);
        Check.due("meet(0, 1, 1, 0)", y.meet(0, 1, 1, 0), 20);
        Check.due("meet(1, 0, 1, 1)", y.meet(1, 0, 1, 1), 1);
    }

    // ---- promises 25 to 27

    /** "TAKERS, 5 at most, TAKE so much each (1 .. 30)"; "OUTSIDE; FULL". */
    private static void takers() {
        int[] outside = {MIN, -1, 0, 31, MAX};
        Twins four = new Twins("four takers", x -> {
            for (int i = 1; i <= 4; i++) {
                x.taker(i);
            }
        });
        Twins five = new Twins("five takers", x -> {
            for (int i = 1; i <= 5; i++) {
                x.taker(7 * i - 6);
            }
        });
        for (int n : outside) {
            Worlds.fresh().unchanged("taker(" + n + ")", x -> x.taker(n), OUTSIDE);
            four.unchanged("taker(" + n + ")", x -> x.taker(n), OUTSIDE);
            five.unchanged("taker(" + n + ")", x -> x.taker(n), OUTSIDE);
        }
        Worlds.fresh().answers("taker(1)", x -> x.taker(1), 1);
        Worlds.fresh().answers("taker(30)", x -> x.taker(30), 1);
        four.answers("a fifth", x -> x.taker(30), 5);
        five.unchanged("a sixth", x -> x.taker(1), FULL);
        five.unchanged("a sixth", x -> x.taker(30), FULL);
        Worlds.fresh().unchanged("dismiss() of none", x -> x.dismiss(), 0);
        SnowCourse x = five.answers("dismiss()", y -> y.dismiss(), 5);
        Check.due("count(7)", x.count(7), 0);
        Check.due("dismiss() again", x.dismiss(), 0);
        Check.due("left(100, 100, 0)", x.left(100, 100, 0), 1);
        Check.due("left(100, 89, 0)", x.left(100, 89, 0), 0);
        Check.due("taker(30) anew", x.taker(30), 1);
        Check.due("left(100, 60, 1)", x.left(100, 60, 1), 1);
        Check.due("left(100, 89, 0): the former ones are gone", x.left(100, 89, 0), 0);
        // Takers stay through deeds; dismissing them changes nothing else.
        Worlds.busy().unchanged("dismiss(), and called again", y -> {
            y.dismiss();
            y.taker(3);
            return y.taker(7);
        }, 2);
    }

    /** "OUTSIDE: s, l (0 .. 999), what." */
    private static void leftRefused() {
        Twins at = Worlds.busy();
        int[] pounds = {MIN, -1, 1000, MAX};
        int[] whats = {MIN, -1, 2, MAX};
        for (int n : pounds) {
            at.unchanged("left(" + n + ", 0, 0)", x -> x.left(n, 0, 0), OUTSIDE);
            at.unchanged("left(0, " + n + ", 0)", x -> x.left(0, n, 0), OUTSIDE);
            at.unchanged("left(" + n + ", " + n + ", 1)", x -> x.left(n, n, 1), OUTSIDE);
        }
        for (int what : whats) {
            at.unchanged("left(0, 0, " + what + ")", x -> x.left(0, 0, what), OUTSIDE);
        }
        Twins none = Worlds.fresh();
        int[] taken = {0, 1, 998, 999};
        for (int n : taken) {
            none.unchanged("left(" + n + ", " + n + ", 0)", x -> x.left(n, n, 0), 1);
            none.unchanged("left(" + n + ", " + n + ", 1)", x -> x.left(n, n, 1), 0);
        }
        none.unchanged("left(0, 999, 0)", x -> x.left(0, 999, 0), 0);
        none.unchanged("left(999, 0, 1)", x -> x.left(999, 0, 1), NONE);
        none.unchanged("left(0, 999, 1)", x -> x.left(0, 999, 1), NONE);
    }

    /** "sets of them (by bits) by which .. l pounds are left: how many; the least". */
    private static void leftBySets() {
        SnowCourse x = new SnowCourse();
        for (int i = 0; i < 5; i++) {
            x.taker(1);
        }
        // 100 loses 10 and 1, 89 loses 9 and 1, 79 8 and 1, 70 8 and 1, 61 7 and 1.
        int[][] due = {{100, 1, 0}, {89, 5, 1}, {79, 10, 3}, {70, 10, 7}, {61, 5, 15}, {53, 1, 31}, {99, 0, NONE},
            {90, 0, NONE}, {52, 0, NONE}, {0, 0, NONE}, {101, 0, NONE}};
        for (int[] row : due) {
            Check.due("left(100, " + row[0] + ", 0)", x.left(100, row[0], 0), row[1]);
            Check.due("left(100, " + row[0] + ", 1)", x.left(100, row[0], 1), row[2]);
        }
        // 999 loses 31 and 30.
        SnowCourse y = new SnowCourse();
        y.taker(30);
        Check.due("left(999, 938, 1)", y.left(999, 938, 1), 1);
        Check.due("left(999, 999, 0)", y.left(999, 999, 0), 1);
        Check.due("left(999, 969, 0)", y.left(999, 969, 0), 0);
    }

    /** "(a set of which one cannot is none)"; each has OPENED the cellar, and takes behind that. */
    private static void leftOfTooLittle() {
        SnowCourse x = new SnowCourse();
        x.taker(1);
        // 1 is gone by the opening; of 2 one is left to take.
        Check.due("left(1, 0, 0)", x.left(1, 0, 0), 0);
        Check.due("left(1, 1, 0)", x.left(1, 1, 0), 1);
        Check.due("left(2, 0, 0)", x.left(2, 0, 0), 1);
        Check.due("left(2, 0, 1)", x.left(2, 0, 1), 1);
        Check.due("left(0, 0, 0)", x.left(0, 0, 0), 1);
        SnowCourse y = new SnowCourse();
        y.taker(30);
        // 36 - 6 = 30; 35 - 5 = 30; 34 - 5 = 29.
        Check.due("left(36, 0, 1)", y.left(36, 0, 1), 1);
        Check.due("left(35, 0, 1)", y.left(35, 0, 1), 1);
        Check.due("left(34, 0, 1)", y.left(34, 0, 1), NONE);
        // In their turns: 20 - 4 - 2 = 14, - 3 - 9 = 2; the other way round it would be 20 - 4 - 9 = 7, - 2 - 2 = 3.
        SnowCourse z = new SnowCourse();
        z.taker(2);
        z.taker(9);
        Check.due("left(20, 2, 1)", z.left(20, 2, 1), 3);
        Check.due("left(20, 3, 1)", z.left(20, 3, 1), NONE);
        Check.due("left(20, 7, 1)", z.left(20, 7, 1), 2);
        // The second cannot behind the first, but a third could: none all the same.
        SnowCourse w = new SnowCourse();
        w.taker(10);
        w.taker(9);
        w.taker(1);
        // 20 - 4 - 10 = 6, - 2 = 4 is less than 9; without the second 6 - 2 - 1 = 3.
        Check.due("left(20, 3, 0)", w.left(20, 3, 0), 1);
        Check.due("left(20, 3, 1)", w.left(20, 3, 1), 5);
    }

    // ---- promise 28

    /** "UNKNOWN (the PLACE where it is, too); OUTSIDE: pounds (0 .. 99)." */
    private static void dripRefused() {
        Twins at = Worlds.full();
        for (int cart : NO_CART) {
            at.unchanged("drip(" + cart + ", 1, 0)", x -> x.drip(cart, 1, 0), UNKNOWN);
            at.answers("drip(" + cart + ", 1, 100)", x -> x.drip(cart, 1, 100), UNKNOWN);
        }
        for (int place : NO_PLACE) {
            at.unchanged("drip(0, " + place + ", 0)", x -> x.drip(0, place, 0), UNKNOWN);
            at.answers("drip(0, " + place + ", 100)", x -> x.drip(0, place, 100), UNKNOWN);
        }
        at.unchanged("drip(0, 0, 0)", x -> x.drip(0, 0, 0), UNKNOWN);
        at.unchanged("drip(3, 6, 0)", x -> x.drip(3, 6, 0), UNKNOWN);
        at.unchanged("drip(0, 0, 100)", x -> x.drip(0, 0, 100), UNKNOWN);
        int[] outside = {MIN, -1, 100, MAX};
        for (int pounds : outside) {
            at.unchanged("drip(0, 1, " + pounds + ")", x -> x.drip(0, 1, pounds), OUTSIDE);
            at.unchanged("drip(0, 4, " + pounds + "), no road", x -> x.drip(0, 4, pounds), OUTSIDE);
        }
        at.unchanged("drip(0, 1, 99)", x -> x.drip(0, 1, 99), 0);
        at.unchanged("drip(0, 4, 0), no road", x -> x.drip(0, 4, 0), 0);
        // Where it is, not where it was at first.
        SnowCourse x = at.fresh();
        x.go(0, 0);
        Check.due("drip(0, 1, 0)", x.drip(0, 1, 0), UNKNOWN);
        Check.due("drip(0, 0, 0)", x.drip(0, 0, 0), 1);
    }

    /** "(later than HOUR 48: none)". */
    private static void dripUpTo48() {
        SnowCourse x = Check.told("mountain;city;road 0 1 1;road 0 1 2;road 1 0 6;bandits 0 1 3;cart 0 0");
        int[] hours = {42, 43, 45, 46, 47, 48};
        int[] due = {15, 11, 11, 3, 1, 0};
        int at = 0;
        for (int i = 0; i < hours.length; i++) {
            x.rest(0, hours[i] - at);
            at = hours[i];
            Check.due("drip in hour " + at, x.drip(0, 1, 0), due[i]);
        }
    }

    /** "ROADS (by bits) from its PLACE to another one by which, if it GOES now, just so many pounds come". */
    private static void dripByBits() {
        Twins at = new Twins("a full country, 50 pounds", x -> {
            Check.tell(x, "mountain;city;city;road 0 1 1;road 1 0 1;road 0 2 1;road 2 1 1;shaded 1 0 1;bandits 0 1 1;"
                    + "road 0 1 2;road 0 1 1");
            Check.tell(x, "bandits 1 0 1;cart 0 0");
            x.fill(0, 50);
        });
        // 42 by roads 0, 1, 7; 46 in the shade; 38 by bandits, 5 and 8; 35 in two hours.
        at.unchanged("drip(0, 1, 42)", x -> x.drip(0, 1, 42), 131);
        at.unchanged("drip(0, 1, 46)", x -> x.drip(0, 1, 46), 16);
        at.unchanged("drip(0, 1, 38)", x -> x.drip(0, 1, 38), 288);
        at.unchanged("drip(0, 1, 35)", x -> x.drip(0, 1, 35), 64);
        at.unchanged("drip(0, 1, 41)", x -> x.drip(0, 1, 41), 0);
        at.unchanged("drip(0, 1, 43)", x -> x.drip(0, 1, 43), 0);
        at.unchanged("drip(0, 2, 42)", x -> x.drip(0, 2, 42), 4);
        SnowCourse x = Check.told("city;city;road 0 1 1;road 0 1 1;road 0 1 1;road 0 1 1;road 0 1 1;road 0 1 1;"
                + "road 0 1 1;road 0 1 1;road 0 1 1;cart 0 0");
        Check.due("all nine", x.drip(0, 1, 0), 511);
    }

    // ---- promise 29

    /** "OUTSIDE: s (0 .. 99), d, p, part."; "d DAYS (1 .. 6)"; "p (0 .. 10)". */
    private static void sealRefused() {
        Twins at = Worlds.busy();
        int[] s = {MIN, -1, 100, MAX};
        int[] d = {MIN, -1, 0, 7, MAX};
        int[] p = {MIN, -1, 11, MAX};
        int[] part = {MIN, -1, 2, MAX};
        for (int n : s) {
            at.unchanged("seal(" + n + ", 1, 0, 0)", x -> x.seal(n, 1, 0, 0), OUTSIDE);
        }
        for (int n : d) {
            at.unchanged("seal(1, " + n + ", 0, 0)", x -> x.seal(1, n, 0, 0), OUTSIDE);
        }
        for (int n : p) {
            at.unchanged("seal(1, 1, " + n + ", 0)", x -> x.seal(1, 1, n, 0), OUTSIDE);
        }
        for (int n : part) {
            at.unchanged("seal(1, 1, 0, " + n + ")", x -> x.seal(1, 1, 0, n), OUTSIDE);
        }
    }

    private static void sealIs(int s, int d, int p, long above, long below) {
        SnowCourse x = new SnowCourse();
        String call = "seal(" + s + ", " + d + ", " + p + ", ";
        Check.due(call + "0)", x.seal(s, d, p, 0), above);
        Check.due(call + "1)", x.seal(s, d, p, 1), below);
    }

    /** "for 5 a pound, if it is WARM, else 3"; "on the last one all is SOLD"; "in lowest terms". */
    private static void sealAtItsEnds() {
        for (int d = 1; d <= 6; d++) {
            sealIs(0, d, 0, 0, 1);
            sealIs(0, d, 5, 0, 1);
            sealIs(0, d, 10, 0, 1);
            sealIs(99, d, 0, 297, 1);
            sealIs(99, d, 10, 495, 1);
            sealIs(1, d, 0, 3, 1);
            sealIs(1, d, 10, 5, 1);
        }
        // One day: 3 and p fifths a pound.
        sealIs(1, 1, 1, 16, 5);
        sealIs(1, 1, 5, 4, 1);
        sealIs(1, 1, 9, 24, 5);
        sealIs(5, 1, 1, 16, 1);
        sealIs(99, 1, 9, 2376, 5);
        // Two days, one pound: warm at first 5; else tomorrow's 16/5: 1/10 of 5, 9/10 of 16/5 are 169/50.
        sealIs(1, 2, 1, 169, 50);
        // Three: 1/10 of 5 and 9/10 of 169/50 are 1771/500.
        sealIs(1, 3, 1, 1771, 500);
        sealIs(1, 4, 1, 18439, 5000);
        sealIs(1, 5, 1, 190951, 50000);
        sealIs(1, 6, 1, 1968559, 500000);
    }

    // ---- promise 30

    /** "UNKNOWN (one ROAD and itself, too); NOT: one of both is not at its PLACE". */
    private static void rentRefused() {
        Twins at = Worlds.full();
        for (int cart : NO_CART) {
            at.unchanged("rent(" + cart + ", 0, 6)", x -> x.rent(cart, 0, 6), UNKNOWN);
        }
        for (int road : NO_ROAD) {
            at.unchanged("rent(0, " + road + ", 0)", x -> x.rent(0, road, 0), UNKNOWN);
            at.unchanged("rent(0, 0, " + road + ")", x -> x.rent(0, 0, road), UNKNOWN);
            at.unchanged("rent(0, 3, " + road + "), from afar, too", x -> x.rent(0, 3, road), UNKNOWN);
        }
        for (int road = 0; road < 9; road++) {
            int r = road;
            at.unchanged("rent(0, " + r + ", " + r + ")", x -> x.rent(0, r, r), UNKNOWN);
        }
        at.unchanged("rent(0, 0, 1)", x -> x.rent(0, 0, 1), NOT);
        at.unchanged("rent(0, 1, 0)", x -> x.rent(0, 1, 0), NOT);
        at.unchanged("rent(0, 1, 2)", x -> x.rent(0, 1, 2), NOT);
        at.unchanged("rent(0, 0, 6)", x -> x.rent(0, 0, 6), 9999);
        at.unchanged("rent(3, 8, 7), the last of each", x -> x.rent(3, 8, 7), 9999);
        SnowCourse gone = at.fresh();
        gone.go(0, 0);
        Check.due("rent(0, 0, 6), gone", gone.rent(0, 0, 6), NOT);
        Check.due("rent(0, 0, 1), gone", gone.rent(0, 0, 1), 9999);
    }

    /** "NOT: .. or comes later than HOUR 48". */
    private static void rentUpTo48() {
        String country = "mountain;city;city;road 0 1 1;road 0 2 6;stamped 0 3";
        Twins just = new Twins("up to 48", x -> {
            Check.tell(x, country);
            x.rest(0, 42);
            x.fill(0, 10);
        });
        // 10 for 2 in hour 43, 10 for 4 in hour 48.
        just.unchanged("rent(0, 1, 0)", x -> x.rent(0, 1, 0), 9999 + 20);
        just.unchanged("rent(0, 0, 1)", x -> x.rent(0, 0, 1), 9999 - 20);
        Twins late = new Twins("up to 49", x -> {
            Check.tell(x, country);
            x.rest(0, 43);
            x.fill(0, 10);
        });
        late.unchanged("rent(0, 1, 0)", x -> x.rent(0, 1, 0), NOT);
        late.unchanged("rent(0, 0, 1)", x -> x.rent(0, 0, 1), NOT);
        Twins last = new Twins("hour 48", x -> {
            Check.tell(x, country);
            x.rest(0, 48);
        });
        last.unchanged("rent(0, 0, 1)", x -> x.rent(0, 0, 1), NOT);
        last.unchanged("rent(0, 0, 0)", x -> x.rent(0, 0, 0), UNKNOWN);
        last.unchanged("rent(0, 0, 2)", x -> x.rent(0, 0, 2), UNKNOWN);
    }

    /** "SNOW that comes by it, times PRICE in the HOUR in which it comes"; "RENT, and 9999". */
    private static void rentByTheHourOfComing() {
        int[] hours = {4, 10, 16, 22, 28, 34, 40, 46};
        // By a road of an hour it comes in the last hour of a price, by one of two in the first hour of the next.
        int[] due = {10, -20, 30, -20, 10, -20, 30, -20};
        for (int i = 0; i < hours.length; i++) {
            SnowCourse x = Check.told("mountain;city;city;road 0 1 1;road 0 2 2;stamped 0 3");
            x.rest(0, hours[i]);
            x.fill(0, 10);
            Check.due("rent(0, 0, 1) in hour " + hours[i], x.rent(0, 0, 1), 9999 + due[i]);
            Check.due("rent(0, 1, 0) in hour " + hours[i], x.rent(0, 1, 0), 9999 - due[i]);
        }
        // No city is asked for, and a cellar is no other place.
        SnowCourse y = Check.told("mountain;cellar;crossing;road 0 1 1;bandits 0 2 1;stamped 0 3");
        y.fill(0, 20);
        Check.due("rent(0, 0, 1)", y.rent(0, 0, 1), 9999 + 8);
        SnowCourse z = Check.told("mountain;city;shaded 0 1 1;bandits 0 1 6;stamped 0 3");
        z.rest(0, 11);
        z.fill(0, 99);
        // At noon 99 loses twice 5, half of it in the shade: 94 for 5 are 470.
        // By bandits 89 79 71 63 57, then 57 loses 3: 54, less 5: 49 for 5 are 245.
        Check.due("rent(0, 0, 1)", z.rent(0, 0, 1), 9999 + 225);
        Check.due("rent(0, 1, 0)", z.rent(0, 1, 0), 9999 - 225);
    }

    // ---- promise 31

    /** "UNKNOWN (a PLACE and itself is well); OUTSIDE." */
    private static void aroundRefused() {
        Twins at = Worlds.full();
        for (int place : NO_PLACE) {
            at.unchanged("around(" + place + ", 0, 0)", x -> x.around(place, 0, 0), UNKNOWN);
            at.unchanged("around(0, " + place + ", 0)", x -> x.around(0, place, 0), UNKNOWN);
            at.unchanged("around(" + place + ", " + place + ", 0)", x -> x.around(place, place, 0), UNKNOWN);
            at.unchanged("around(0, " + place + ", 3)", x -> x.around(0, place, 3), UNKNOWN);
        }
        int[] outside = {MIN, -1, 3, MAX};
        for (int what : outside) {
            at.unchanged("around(0, 6, " + what + ")", x -> x.around(0, 6, what), OUTSIDE);
            at.unchanged("around(0, 0, " + what + ")", x -> x.around(0, 0, what), OUTSIDE);
            Worlds.of("city;city").unchanged("around(0, 1, " + what + "), without a way", x -> x.around(0, 1, what), OUTSIDE);
        }
        at.unchanged("around(6, 0, 0), the last", x -> x.around(6, 0, 0), 0);
        at.unchanged("around(6, 0, 1)", x -> x.around(6, 0, 1), 2);
        at.unchanged("around(6, 0, 2)", x -> x.around(6, 0, 2), 6);
    }

    /** "NONE: it is there"; "NONE: there is no way". */
    private static void aroundItself() {
        Twins at = Worlds.full();
        int[] itself = {0, 0, NONE};
        for (int place = 0; place < 7; place++) {
            for (int what = 0; what <= 2; what++) {
                int p = place;
                int w = what;
                at.answers("around(" + p + ", " + p + ", " + w + ")", x -> x.around(p, p, w), itself[w]);
            }
        }
        SnowCourse x = Check.told("city;city;city;city;road 0 1 1;road 2 3 1");
        for (int what = 0; what <= 2; what++) {
            Check.due("around(0, 2, " + what + ")", x.around(0, 2, what), NONE);
            Check.due("around(3, 1, " + what + ")", x.around(3, 1, what), NONE);
            Check.due("around(3, 2, " + what + ")", x.around(3, 2, what), what == 0 ? 0 : 1);
            Check.due("around of a place without roads", Check.told("city").around(0, 0, what), itself[what]);
        }
    }

    /** "fewest BANDITS, of these of fewest HOURS: .. its first ROAD, of several the least". */
    private static void aroundFewest() {
        // Six roads of six hours without bandits, or one hour by one of bandits.
        SnowCourse x = Check.told("city;city;city;city;city;city;city;bandits 0 6 1");
        Check.tell(x, "road 0 1 6;road 1 2 6;road 2 3 6;road 3 4 6;road 4 5 6;road 5 6 6");
        int[] there = {0, 36, 1};
        int[] back = {0, 36, 6};
        for (int what = 0; what <= 2; what++) {
            Check.due("around(0, 6, " + what + ")", x.around(0, 6, what), there[what]);
            Check.due("around(6, 0, " + what + ")", x.around(6, 0, what), back[what]);
        }
        // With bandits everywhere, the one road of bandits is better than two.
        SnowCourse y = Check.told("city;city;city;bandits 0 1 1;bandits 1 2 1;bandits 0 2 6");
        int[] one = {1, 6, 2};
        for (int what = 0; what <= 2; what++) {
            Check.due("around(0, 2, " + what + ")", y.around(0, 2, what), one[what]);
        }
        // Several ways of five hours; of their first roads the least, though a shorter first road is there.
        SnowCourse z = Check.told("city;city;city;city;road 2 3 1;road 0 2 4;road 0 1 1;road 1 3 4;road 0 3 5;road 3 0 5");
        Check.due("around(0, 3, 1)", z.around(0, 3, 1), 5);
        Check.due("around(0, 3, 2)", z.around(0, 3, 2), 1);
        Check.due("around(3, 0, 2)", z.around(3, 0, 2), 0);
        // The ninth road as the first one of the way.
        SnowCourse w = Check.told("city;city;" + "bandits 0 1 1;".repeat(8) + "road 1 0 6");
        Check.due("around(0, 1, 2)", w.around(0, 1, 2), 8);
        Check.due("around(0, 1, 1)", w.around(0, 1, 1), 6);
        Check.due("around(0, 1, 0)", w.around(0, 1, 0), 0);
    }

    // ---- promises 32 to 34

    /** "THE ROW is a row of LOADS (1 .. 99 pounds), 5 at most"; "OUTSIDE; FULL". */
    private static void row() {
        int[] outside = {MIN, -1, 0, 100, MAX};
        Twins four = new Twins("four loads", x -> {
            for (int i = 1; i <= 4; i++) {
                x.put(20 * i);
            }
        });
        Twins five = new Twins("five loads", x -> {
            for (int i = 1; i <= 5; i++) {
                x.put(19 * i);
            }
        });
        for (int n : outside) {
            Worlds.fresh().unchanged("put(" + n + ")", x -> x.put(n), OUTSIDE);
            four.unchanged("put(" + n + ")", x -> x.put(n), OUTSIDE);
            five.unchanged("put(" + n + ")", x -> x.put(n), OUTSIDE);
        }
        Worlds.fresh().answers("put(1)", x -> x.put(1), 1);
        Worlds.fresh().answers("put(99)", x -> x.put(99), 1);
        four.answers("a fifth", x -> x.put(99), 5);
        five.unchanged("a sixth", x -> x.put(1), FULL);
        five.unchanged("a sixth", x -> x.put(99), FULL);
        Worlds.fresh().unchanged("wipe() of nothing", x -> x.wipe(), 0);
        SnowCourse x = five.answers("wipe()", y -> y.wipe(), 5);
        Check.due("count(8)", x.count(8), 0);
        Check.due("wipe() again", x.wipe(), 0);
        Check.due("pass(0, NONE)", x.pass(0, NONE), 0);
        Check.due("pass(0, 0)", x.pass(0, 0), NONE);
        Check.due("put(7) anew", x.put(7), 1);
        Check.due("pass(0, NONE)", x.pass(0, NONE), 7);
        Worlds.busy().unchanged("wipe(), and put again", y -> {
            y.wipe();
            y.put(20);
            return y.put(9);
        }, 2);
    }

    /** "PASS from an HOUR (0 .. 43) on"; "OUTSIDE: the HOUR, k below NONE", ahead of "NONE: there are not so many". */
    private static void passRefused() {
        Twins[] some = {Worlds.fresh(), Worlds.busy()};
        int[] hours = {MIN, -1, 44, MAX};
        int[] below = {MIN, -2, -5};
        for (Twins at : some) {
            for (int hour : hours) {
                at.unchanged("pass(" + hour + ", NONE)", x -> x.pass(hour, NONE), OUTSIDE);
                at.unchanged("pass(" + hour + ", 0)", x -> x.pass(hour, 0), OUTSIDE);
                at.unchanged("pass(" + hour + ", 9)", x -> x.pass(hour, 9), OUTSIDE);
            }
            for (int k : below) {
                at.unchanged("pass(0, " + k + ")", x -> x.pass(0, k), OUTSIDE);
                at.unchanged("pass(43, " + k + ")", x -> x.pass(43, k), OUTSIDE);
            }
        }
    }

    /** "how many pounds (k NONE), the place in THE ROW of the k-th; NONE: there are not so many". */
    private static void passOfFew() {
        Twins none = Worlds.fresh();
        int[] hours = {0, 43};
        for (int hour : hours) {
            none.unchanged("pass(" + hour + ", NONE)", x -> x.pass(hour, NONE), 0);
            none.unchanged("pass(" + hour + ", 0)", x -> x.pass(hour, 0), NONE);
            none.unchanged("pass(" + hour + ", 4)", x -> x.pass(hour, 4), NONE);
        }
        for (int size = 1; size <= 5; size++) {
            SnowCourse x = new SnowCourse();
            for (int i = 0; i < size; i++) {
                x.put(1);
            }
            // One goes through, the others are gone by then.
            Check.due("pass(0, NONE) of " + size, x.pass(0, NONE), 1);
            for (int k = 0; k < 7; k++) {
                Check.due("pass(0, " + k + ") of " + size, x.pass(0, k), k < size ? k : NONE);
            }
            Check.due("pass(0, MAX) of " + size, x.pass(0, MAX), NONE);
        }
    }

    /** "the k-th (from 0) is k HOURS there, in the open, PLAIN, without STRAW". */
    private static void passOfFive() {
        SnowCourse x = new SnowCourse();
        for (int i = 0; i < 5; i++) {
            x.put(50);
        }
        // 50 42 35 29 23; from hour 10 on, twice as much: 34 22 12 4 (34 loses 12, 22 10, 12 8); from 9 on 42 28 16 6.
        Check.due("pass(0, NONE)", x.pass(0, NONE), 179);
        Check.due("pass(10, NONE)", x.pass(10, NONE), 122);
        Check.due("pass(9, NONE)", x.pass(9, NONE), 142);
        Check.due("pass(34, NONE)", x.pass(34, NONE), 122);
        Check.due("pass(16, NONE)", x.pass(16, NONE), 179);
        // From 15 on 50 34 28 22 17.
        Check.due("pass(15, NONE)", x.pass(15, NONE), 151);
        Check.due("pass(6, NONE): through ahead of noon", x.pass(6, NONE), 179);
        // From 7 on 50 42 35 29, then 29 loses 12.
        Check.due("pass(7, NONE)", x.pass(7, NONE), 173);
        Check.due("pass(43, NONE)", x.pass(43, NONE), 179);
        // In hours 43 .. 46 they wait: the fourth of these is warm, hour 47 is none of them.
        Twins warm = new Twins("warm at last", y -> {
            Check.tell(y, "warm 46");
            for (int i = 0; i < 5; i++) {
                y.put(50);
            }
        });
        warm.unchanged("pass(43, NONE)", y -> y.pass(43, NONE), 177);
        warm.unchanged("pass(42, NONE)", y -> y.pass(42, NONE), 179);
        Twins later = new Twins("warm behind", y -> {
            Check.tell(y, "warm 47;warm 42");
            for (int i = 0; i < 5; i++) {
                y.put(50);
            }
        });
        later.unchanged("pass(43, NONE)", y -> y.pass(43, NONE), 179);
    }

    /** "its places, of several the first row (by places of THE ROW)". */
    private static void passFirstRow() {
        SnowCourse x = new SnowCourse();
        for (int i = 0; i < 5; i++) {
            x.put(99);
        }
        for (int k = 0; k < 5; k++) {
            Check.due("pass(0, " + k + ") of alike ones", x.pass(0, k), k);
        }
        // 10 and 11 lose 4 and 4; 36 loses 7: 36 waits never.
        SnowCourse y = new SnowCourse();
        y.put(10);
        y.put(36);
        y.put(11);
        // Behind 36: 10 then 11 are 6 and 7 - 3 = 4 (11 7 4), 11 then 10 are 7 and 3 (10 6 3): both are 10 pounds.
        Check.due("pass(0, NONE)", y.pass(0, NONE), 46);
        Check.due("pass(0, 0)", y.pass(0, 0), 1);
        Check.due("pass(0, 1)", y.pass(0, 1), 0);
        Check.due("pass(0, 2)", y.pass(0, 2), 2);
    }

    // ---- promise 35

    /** "z (0 .. 9999) in n HOURS (0 .. 24)"; "w (0 .. 99) pounds"; "OUTSIDE". */
    private static void windsRefused() {
        Twins at = Worlds.busy();
        int[] z = {MIN, -1, 10000, MAX};
        int[] n = {MIN, -1, 25, MAX};
        int[] w = {MIN, -1, 100, MAX};
        int[] what = {MIN, -1, 2, MAX};
        for (int a : z) {
            at.unchanged("winds(" + a + ", 1, 1, 0)", x -> x.winds(a, 1, 1, 0), OUTSIDE);
        }
        for (int a : n) {
            at.unchanged("winds(1, " + a + ", 1, 0)", x -> x.winds(1, a, 1, 0), OUTSIDE);
        }
        for (int a : w) {
            at.unchanged("winds(1, 1, " + a + ", 0)", x -> x.winds(1, 1, a, 0), OUTSIDE);
            at.unchanged("winds(1, 1, " + a + ", 1)", x -> x.winds(1, 1, a, 1), OUTSIDE);
        }
        for (int a : what) {
            at.unchanged("winds(1, 1, 1, " + a + ")", x -> x.winds(1, 1, 1, a), OUTSIDE);
        }
    }

    /** "in HOUR k (from 0) x is 7919 z, 6151 k and 1 together ..": how many are warm, what is left, hour by hour. */
    private static void windsAtTheirEnds() {
        SnowCourse x = new SnowCourse();
        // By z 9999 the hours 1, 2, 3, 5, 8, 11, 14, 15, 16 are warm; its x is beyond an int when it is squared.
        int[] many = {0, 0, 1, 2, 3, 3, 4, 4, 4, 5, 5, 5, 6, 6, 6, 7, 8, 9, 9, 9, 9, 9, 9, 9, 9};
        int[] left = {99, 89, 77, 66, 55, 47, 38, 31, 25, 17, 12, 4, 0, 0, 0, 0, 0, 0, 0, 0, 0, 0, 0, 0, 0};
        for (int n = 0; n <= 24; n++) {
            Check.due("winds(9999, " + n + ", 99, 0)", x.winds(9999, n, 99, 0), many[n]);
            Check.due("winds(9999, " + n + ", 99, 1)", x.winds(9999, n, 99, 1), left[n]);
            Check.due("winds(9999, " + n + ", 0, 1)", x.winds(9999, n, 0, 1), 0);
            Check.due("winds(9999, " + n + ", 0, 0)", x.winds(9999, n, 0, 0), many[n]);
        }
        // By z 5 hour 0 is warm: 99 loses 12; by z 0 it is not.
        Check.due("winds(5, 1, 99, 0)", x.winds(5, 1, 99, 0), 1);
        Check.due("winds(5, 1, 99, 1)", x.winds(5, 1, 99, 1), 87);
        Check.due("winds(0, 1, 99, 0)", x.winds(0, 1, 99, 0), 0);
        Check.due("winds(0, 1, 99, 1)", x.winds(0, 1, 99, 1), 89);
        Check.due("winds(0, 1, 1, 1)", x.winds(0, 1, 1, 1), 0);
        Check.due("winds(0, 24, 50, 0)", x.winds(0, 24, 50, 0), 9);
        // "it is WARM (else not)": hours that a text told as warm do not count here.
        SnowCourse y = Check.told("warm 0;warm 1;warm 2");
        Check.due("winds(0, 3, 99, 0)", y.winds(0, 3, 99, 0), 0);
        Check.due("winds(0, 3, 99, 1)", y.winds(0, 3, 99, 1), 70);
        Check.due("count(3): nor do drawn ones stay", y.count(3), 3);
    }

    // ---- promise 36

    /** "0 PLACES .. 10 letters of THE TEXT. OUTSIDE." */
    private static void countRefused() {
        int[] outside = {MIN, -2, -1, 11, 12, MAX};
        for (int what : outside) {
            Worlds.busy().unchanged("count(" + what + ")", x -> x.count(what), OUTSIDE);
            Worlds.fresh().unchanged("count(" + what + ")", x -> x.count(what), OUTSIDE);
        }
        // 52 stored, 7 lost by the opening, 20 taken; 50 came to the city as 44 39 34, less 3 by bandits, for 4 each.
        int[] busy = {4, 4, 3, 1, 124, 20, 25, 2, 2, 7, 13};
        for (int what = 0; what <= 10; what++) {
            int w = what;
            Worlds.busy().unchanged("count(" + w + ")", x -> x.count(w), busy[w]);
        }
    }

    /** Each count at the most that the document allows. */
    private static void countAtTheMost() {
        SnowCourse full = Worlds.full().fresh();
        Check.due("count(0)", full.count(0), 7);
        Check.due("count(1)", full.count(1), 9);
        Check.due("count(2)", full.count(2), 4);
        SnowCourse x = new SnowCourse();
        StringBuilder text = new StringBuilder();
        for (int hour = 0; hour < 48; hour++) {
            text.append(text.length() == 0 ? "" : ";").append("warm ").append(hour);
            if (hour % 14 == 13 || hour == 47) {
                Check.tell(x, text.toString());
                text.setLength(0);
            }
        }
        Check.due("count(3)", x.count(3), 48);
        SnowCourse y = Check.told("mountain;cart 0 0;cart 0 0;cart 0 0;cart 0 0");
        for (int cart = 0; cart < 4; cart++) {
            y.fill(cart, 90);
            y.fill(cart, 9);
        }
        Check.due("count(5)", y.count(5), 396);
        Check.due("count(9)", y.count(9), 8);
        y.fill(0, 1);
        Check.due("count(9)", y.count(9), 8);
        for (int i = 1; i <= 6; i++) {
            y.taker(i);
            y.put(i);
        }
        Check.due("count(7)", y.count(7), 5);
        Check.due("count(8)", y.count(8), 5);
        Check.write(y, "q".repeat(165));
        Check.due("count(10)", y.count(10), 160);
        // Stock of all cellars together.
        SnowCourse z = Check.told("mountain;cellar;cellar;road 0 1 1;road 0 2 1;stamped 0 3;stamped 0 3");
        z.fill(0, 20);
        z.fill(1, 24);
        z.go(0, 0);
        z.go(1, 1);
        z.store(0);
        z.store(1);
        Check.due("count(6)", z.count(6), 44);
        Check.due("count(5)", z.count(5), 0);
    }
}
