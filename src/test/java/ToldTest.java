/** Promises 1 to 11: a new object, texts, and what was told. */
final class ToldTest {
    private static final int NONE = -1, UNKNOWN = -2, OUTSIDE = -3, NOT = -4, FULL = -5;

    public static void main(String[] args) {
        newObject();
        writeAndErase();
        faultsOfWords();
        faultsOfNumbers();
        faultsOfTooMany();
        faultsOnTopOfACountry();
        land();
        landBeginsAnew();
        landOfAFullCountry();
        placeRoadCart();
        as();
        roadAs();
        price();
        Check.end();
    }

    private static void newObject() {
        SnowCourse x = new SnowCourse();
        for (int what = 0; what <= 10; what++) {
            Check.due("new: count(" + what + ")", x.count(what), 0);
        }
        Check.due("new: place(0, 0)", x.place(0, 0), UNKNOWN);
        Check.due("new: road(0, 0)", x.road(0, 0), UNKNOWN);
        Check.due("new: cart(0, 0)", x.cart(0, 0), UNKNOWN);
        Check.due("new: undo()", x.undo(), NOT);
        Check.due("new: back(0)", x.back(0), NOT);
        Check.due("NONE", SnowCourse.NONE, NONE);
        Check.due("UNKNOWN", SnowCourse.UNKNOWN, UNKNOWN);
        Check.due("OUTSIDE", SnowCourse.OUTSIDE, OUTSIDE);
        Check.due("NOT", SnowCourse.NOT, NOT);
        Check.due("FULL", SnowCourse.FULL, FULL);
    }

    private static void writeAndErase() {
        SnowCourse x = new SnowCourse();
        Check.due("erase() of nothing", x.erase(), 0);
        Check.due("write(-1)", x.write(-1), OUTSIDE);
        Check.due("write(256)", x.write(256), OUTSIDE);
        Check.due("write(0)", x.write(0), 1);
        Check.due("write(255)", x.write(255), 2);
        for (int i = 3; i <= 160; i++) {
            Check.due("write(97)", x.write(97), i);
        }
        Check.due("write(97) beyond 160", x.write(97), FULL);
        Check.due("write(256) beyond 160", x.write(256), OUTSIDE);
        Check.due("count(10)", x.count(10), 160);
        Check.due("fault() of 160 letters", x.fault(), 0);
        Check.due("erase()", x.erase(), 160);
        Check.due("count(10) behind erase()", x.count(10), 0);
        Check.due("write(97) behind erase()", x.write(97), 1);
    }

    private static void faultOf(String text, int want) {
        SnowCourse x = new SnowCourse();
        faultOn(x, text, want);
        Check.due("land() of '" + text + "'", x.land(), want == NONE ? text.split(";").length : NOT);
        Check.due("count(10) behind land()", x.count(10), want == NONE ? 0 : text.length());
    }

    private static void faultOn(SnowCourse x, String text, int want) {
        x.erase();
        Check.write(x, text);
        Check.due("fault() of '" + text + "'", x.fault(), want);
    }

    private static void faultsOfWords() {
        faultOf("", 0);
        faultOf("   ", 3);
        faultOf("land", NONE);
        faultOf("  land  ", NONE);
        faultOf("lan", 0);
        faultOf("landd", 0);
        faultOf("landland", 0);
        faultOf("landz", 0);
        faultOf("aland", 0);
        faultOf("Land", 0);
        faultOf("lanD", 0);
        faultOf("land;", 5);
        faultOf("land;  ", 7);
        faultOf("land ; calm", NONE);
        faultOf(";land", 0);
        faultOf("land;;calm", 5);
        faultOf("land calm", 5);
        faultOf("land 3", 5);
        faultOf("land.", 4);
        faultOf("land,calm", 4);
        faultOf("7", 0);
        faultOf("crossing;mountain;cellar;city;calm", NONE);
        faultOf("bandit 0 1 2", 0);
        faultOf("load 0 1", 0);
        faultOf("plain 0 1", 0);
        faultOf("open 0 1 2", 0);
        faultOf("calm\t", 4);
        faultOf("calm\n;calm", 4);
        faultOf("calm" + (char) 233, 4);
        faultOf("calm" + (char) 0, 4);
        faultOf("calm" + (char) 160, 4);
    }

    private static void faultsOfNumbers() {
        String two = "mountain;city;";
        faultOf("land;road 0 1 2", 10);
        faultOf("mountain;road 0 1 2", 16);
        faultOf("mountain;road 1 0 2", 14);
        faultOf(two + "road 0 1 1", NONE);
        faultOf(two + "road 1 0 6", NONE);
        faultOf(two + "road 0 0 1", 21);
        faultOf(two + "road 0 00 1", 21);
        faultOf(two + "road 0 2 1", 21);
        faultOf(two + "road 0 1 0", 23);
        faultOf(two + "road 0 1 7", 23);
        faultOf(two + "road 0 1 06", NONE);
        faultOf(two + "road 00 01 2", NONE);
        faultOf(two + "road 0 1 006", 23);
        faultOf(two + "road 000 1 6", 19);
        faultOf(two + "road0 1 2", NONE);
        faultOf(two + "road 01 2", 22);
        faultOf(two + "road 0 1 2 3", 25);
        faultOf(two + "road", 18);
        faultOf(two + "road 0", 20);
        faultOf(two + "road 0 1 ", 23);
        faultOf(two + "road ;", 19);
        faultOf(two + "road 0;1 2", 20);
        faultOf(two + "road a 1 2", 19);
        faultOf(two + "road -1 1 2", 19);
        faultOf(two + "shaded 0 1 3;bandits 1 0 4", NONE);
        faultOf(two + "shaded 0 0 3", 23);
        faultOf(two + "bandits 2 0 3", 22);
        faultOf(two + "cart 0 0;old 1 3;stamped 0 1", NONE);
        faultOf(two + "cart 2 0", 19);
        faultOf(two + "cart 0 4", 21);
        faultOf(two + "old 0", 19);
        faultOf(two + "stamped 0 10", 24);
        faultOf("warm 0;warm 47;warm 00", NONE);
        faultOf("warm 48", 5);
        faultOf("warm 047", 5);
        faultOf("warm", 4);
        faultOf("warm 1 2", 7);
        faultOf("calm 1", 5);
        faultOf("mountain;land;cart 0 0", 19);
    }

    private static String times(int n, String clause) {
        StringBuilder text = new StringBuilder();
        for (int i = 0; i < n; i++) {
            text.append(i == 0 ? "" : ";").append(clause);
        }
        return text.toString();
    }

    private static void faultsOfTooMany() {
        faultOf(times(14, "calm"), NONE);
        faultOf(times(15, "calm"), 69);
        faultOf(times(14, "calm") + ";", 69);
        faultOf(times(14, "calm") + " calm", 70);
        faultOf(times(7, "city"), NONE);
        faultOf(times(8, "city"), 35);
        faultOf(times(7, "city") + ";land;city", NONE);
        faultOf("calm" + " ".repeat(156), NONE);
        faultOf("calm;" + " ".repeat(155), 160);
        faultOf("calm;" + "z".repeat(155), 5);
        faultOf("warm " + "1".repeat(155), 5);
        faultOf(times(2, "city") + ";" + times(9, "road 0 1 1"), NONE);
        faultOf(times(2, "city") + ";" + times(10, "road 0 1 1"), 109);
        faultOf(times(2, "city") + ";" + times(9, "road 0 1 1") + ";shaded", 109);
        faultOf("city;" + times(4, "cart 0 0"), NONE);
        faultOf("city;" + times(5, "cart 0 0"), 41);
        faultOf("city;" + times(4, "cart 0 0") + ";stamped 0 9", 41);
    }

    private static void faultsOnTopOfACountry() {
        SnowCourse x = Check.told("mountain;city;road 0 1 2;cart 1 0");
        faultOn(x, "road 1 0 2", NONE);
        faultOn(x, "road 1 2 2", 7);
        faultOn(x, "city;road 1 2 2", NONE);
        faultOn(x, times(5, "city"), NONE);
        faultOn(x, times(6, "city"), 25);
        faultOn(x, times(3, "old 1 0"), NONE);
        faultOn(x, times(4, "old 1 0"), 24);
        faultOn(x, "land;cart 0 0", 10);
        Check.due("count(0): fault() tells nothing", x.count(0), 2);
        Check.due("count(2): fault() tells nothing", x.count(2), 1);
    }

    /** What was told ahead of a land clause takes no room behind it, and is not seen there. */
    private static void landOfAFullCountry() {
        SnowCourse x = Check.told("city;city;" + times(9, "road 0 1 1"));
        Check.tell(x, times(4, "cart 0 0") + ";" + times(5, "city"));
        faultOn(x, "road 0 1 1", 0);
        faultOn(x, "cart 0 1", 0);
        faultOn(x, "city", 0);
        faultOn(x, "land;city;city;" + times(9, "road 0 1 1"), NONE);
        faultOn(x, "land;" + times(7, "city"), NONE);
        faultOn(x, "land;city;" + times(4, "cart 0 1"), NONE);
        x.erase();
        Check.tell(x, "land;mountain;city;city;road 0 2 1;cart 0 0");
        Check.due("place(0, 2)", x.place(0, 2), 1);
        Check.due("place(0, 3)", x.place(0, 3), 1);
        Check.due("comes(0, 1, 0)", x.comes(0, 1, 0), NONE);
        Check.due("around(0, 1, 0)", x.around(0, 1, 0), NONE);
        Check.due("drip(0, 1, 0)", x.drip(0, 1, 0), 0);
        Check.due("go(0, 1)", x.go(0, 1), UNKNOWN);
        Check.due("cart(1, 0)", x.cart(1, 0), UNKNOWN);
        Check.due("place(3, 0)", x.place(3, 0), UNKNOWN);
    }

    private static void land() {
        SnowCourse x = Check.told("crossing;mountain;cellar;city;road 0 1 2;shaded 1 2 3;bandits 3 2 6");
        Check.tell(x, "cart 1 0;old 2 1;stamped 3 3;warm 5;warm 47;warm 5");
        Check.due("count(0)", x.count(0), 4);
        Check.due("count(1)", x.count(1), 3);
        Check.due("count(2)", x.count(2), 3);
        Check.due("count(3)", x.count(3), 2);
        Check.tell(x, "city;calm;warm 0");
        Check.due("count(0)", x.count(0), 5);
        Check.due("count(3) behind calm", x.count(3), 1);
        Check.tell(x, "warm 3;calm");
        Check.due("count(3) behind calm", x.count(3), 0);
        Check.tell(x, "warm 3");
        Check.tell(x, "land;city");
        Check.due("count(0) behind land", x.count(0), 1);
        Check.due("count(1) behind land", x.count(1), 0);
        Check.due("count(2) behind land", x.count(2), 0);
        Check.due("count(3) behind land", x.count(3), 0);
        Check.due("place(0, 0) behind land", x.place(0, 0), 3);
    }

    private static void landBeginsAnew() {
        SnowCourse x = Check.told("mountain;cellar;city;road 0 1 1;road 0 2 1;cart 0 0;cart 0 0");
        x.fill(0, 50);
        x.go(0, 0);
        x.store(0);
        x.fill(1, 30);
        x.go(1, 1);
        x.sell(1);
        x.taker(3);
        x.put(9);
        x.keep(1);
        Check.write(x, "warm 99");
        Check.due("land() with a fault", x.land(), NOT);
        Check.due("count(6) behind a fault", x.count(6), 42);
        Check.due("count(9) behind a fault", x.count(9), 6);
        Check.due("count(10) behind a fault", x.count(10), 7);
        x.erase();
        Check.tell(x, "warm 9");
        Check.due("count(2)", x.count(2), 2);
        for (int what = 4; what <= 10; what++) {
            Check.due("count(" + what + ") behind a text", x.count(what), 0);
        }
        Check.due("cart(0, 2)", x.cart(0, 2), 0);
        Check.due("cart(1, 3)", x.cart(1, 3), 0);
        Check.due("undo()", x.undo(), NOT);
        Check.due("back(1)", x.back(1), NOT);
    }

    private static void placeRoadCart() {
        SnowCourse x = Check.told("crossing;mountain;cellar;city;road 0 1 2;shaded 1 2 3;bandits 3 1 6");
        Check.tell(x, "cart 1 0;old 2 1;stamped 1 3");
        for (int place = 0; place < 4; place++) {
            Check.due("place(" + place + ", 0)", x.place(place, 0), place);
            Check.due("place(" + place + ", 1)", x.place(place, 1), 0);
        }
        Check.due("place(0, 2)", x.place(0, 2), 1);
        Check.due("place(1, 2)", x.place(1, 2), 7);
        Check.due("place(2, 2)", x.place(2, 2), 2);
        Check.due("place(1, 3)", x.place(1, 3), 5);
        Check.due("place(0, 3)", x.place(0, 3), 0);
        Check.due("place(0, 4)", x.place(0, 4), OUTSIDE);
        Check.due("place(0, -1)", x.place(0, -1), OUTSIDE);
        Check.due("place(4, 9)", x.place(4, 9), UNKNOWN);
        Check.due("place(-1, 0)", x.place(-1, 0), UNKNOWN);
        int[] bandits = {2, 3, 1, 6};
        for (int what = 0; what < 4; what++) {
            Check.due("road(2, " + what + ")", x.road(2, what), bandits[what]);
        }
        Check.due("road(1, 0)", x.road(1, 0), 1);
        Check.due("road(0, 4)", x.road(0, 4), OUTSIDE);
        Check.due("road(0, -1)", x.road(0, -1), OUTSIDE);
        Check.due("road(3, 0)", x.road(3, 0), UNKNOWN);
        Check.due("road(-1, 7)", x.road(-1, 7), UNKNOWN);
        x.fill(2, 9);
        x.rest(2, 1);
        int[] stamped = {2, 3, 1, 1, 9};
        for (int what = 0; what < 5; what++) {
            Check.due("cart(2, " + what + ")", x.cart(2, what), stamped[what]);
        }
        Check.due("cart(0, 5)", x.cart(0, 5), OUTSIDE);
        Check.due("cart(0, -1)", x.cart(0, -1), OUTSIDE);
        Check.due("cart(3, 0)", x.cart(3, 0), UNKNOWN);
        Check.due("cart(-1, 0)", x.cart(-1, 0), UNKNOWN);
        Check.due("cart(min, 0)", x.cart(Integer.MIN_VALUE, 0), UNKNOWN);
        Check.due("place(max, 0)", x.place(Integer.MAX_VALUE, 0), UNKNOWN);
    }

    private static void as() {
        SnowCourse x = Check.told("mountain;cellar;road 0 1 1;cart 0 0;old 0 1;stamped 0 3;warm 1;warm 10");
        Check.due("as without snow", x.as(0, 0), 0);
        x.fill(0, 49);
        x.fill(1, 49);
        x.fill(2, 49);
        int[][] want = {{8, 8, NOT, NOT}, {6, 6, 6, NOT}, {3, 3, 3, 3}};
        for (int cart = 0; cart < 3; cart++) {
            for (int kind = 0; kind < 4; kind++) {
                Check.due("as(" + cart + ", " + kind + ")", x.as(cart, kind), want[cart][kind]);
            }
        }
        x.rest(0, 1);
        Check.due("as in a warm hour, of 41", x.as(0, 1), 9);
        x.rest(2, 10);
        // Stamped, straw 3, 49: 46, 42 (warm), 40, 38, 36, 34, 33, 32, 31, 30.
        Check.due("cart(2, 4)", x.cart(2, 4), 30);
        Check.due("as at warm noon: twice 1 and 2", x.as(2, 3), 6);
        Check.due("as(0, 4)", x.as(0, 4), OUTSIDE);
        Check.due("as(0, -1)", x.as(0, -1), OUTSIDE);
        Check.due("as(3, 9)", x.as(3, 9), UNKNOWN);
        x.go(1, 0);
        Check.due("as in a cellar", x.as(1, 2), 0);
        Check.due("as in a cellar", x.as(1, 3), NOT);
        SnowCourse y = Check.told("mountain;cart 0 0;warm 12");
        y.rest(0, 12);
        y.fill(0, 3);
        Check.due("as: w at most", y.as(0, 1), 3);
    }

    private static void roadAs() {
        SnowCourse x = Check.told("city;city;road 0 1 2;shaded 0 1 4;bandits 0 1 2;shaded 0 1 1");
        // 50 - 8 = 42, - 7 = 35; by bandits - 3; in the shade 46 43 40 37.
        int[][] want = {{35, 35, NOT, NOT}, {37, NOT, 37, NOT}, {32, 32, NOT, 32}, {46, NOT, 46, NOT}};
        for (int road = 0; road < 4; road++) {
            for (int kind = 0; kind < 4; kind++) {
                Check.due("roadAs(" + road + ", " + kind + ")", x.roadAs(road, kind), want[road][kind]);
            }
        }
        Check.due("roadAs(0, 4)", x.roadAs(0, 4), OUTSIDE);
        Check.due("roadAs(0, -1)", x.roadAs(0, -1), OUTSIDE);
        Check.due("roadAs(4, 4)", x.roadAs(4, 4), UNKNOWN);
        Check.due("roadAs(-1, 0)", x.roadAs(-1, 0), UNKNOWN);
        Check.tell(x, "warm 0");
        // 50 - 10 = 40, - 7 = 33; in the shade 50 - 5.
        Check.due("roadAs in a warm hour", x.roadAs(0, 0), 33);
        Check.due("roadAs in a warm hour, shaded", x.roadAs(3, 0), 45);
    }

    private static void price() {
        SnowCourse x = new SnowCourse();
        int[] ofDay = {4, 3, 5, 2};
        for (int hour = 0; hour <= 48; hour++) {
            Check.due("price(" + hour + ")", x.price(hour), ofDay[hour / 6 % 4]);
        }
        Check.due("price(-1)", x.price(-1), OUTSIDE);
        Check.due("price(49)", x.price(49), OUTSIDE);
    }
}
