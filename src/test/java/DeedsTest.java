/** Promises 12 to 21: deeds, and deeds undone. */
final class DeedsTest {
    private static final int UNKNOWN = -2, OUTSIDE = -3, NOT = -4, FULL = -5;

    public static void main(String[] args) {
        fill();
        go();
        goByNoonAndShade();
        rest();
        melting();
        join();
        storeAndTake();
        sell();
        undo();
        undoEachDeed();
        keepAndBack();
        Check.end();
    }

    private static void fill() {
        SnowCourse x = Check.told("mountain;city;cart 0 0;cart 1 0");
        Check.due("fill(0, 1)", x.fill(0, 1), 1);
        Check.due("fill(0, 98)", x.fill(0, 98), 99);
        Check.due("fill(0, 1) above 99", x.fill(0, 1), FULL);
        Check.due("fill(0, 0)", x.fill(0, 0), OUTSIDE);
        Check.due("fill(0, 100)", x.fill(0, 100), OUTSIDE);
        Check.due("fill(0, max)", x.fill(0, Integer.MAX_VALUE), OUTSIDE);
        Check.due("fill in a city", x.fill(1, 1), NOT);
        Check.due("fill(1, 0)", x.fill(1, 0), OUTSIDE);
        Check.due("fill(2, 0)", x.fill(2, 0), UNKNOWN);
        Check.due("fill(-1, 1)", x.fill(-1, 1), UNKNOWN);
        Check.due("count(9): refusals are no deeds", x.count(9), 2);
        Check.due("count(5)", x.count(5), 99);
        Check.due("fill(0, 99)", Check.told("mountain;cart 0 0").fill(0, 99), 99);
    }

    private static void go() {
        SnowCourse x = Check.told("mountain;city;city;road 0 1 6;bandits 1 2 1;cart 0 0;cart 0 3");
        x.fill(0, 99);
        Check.due("go(0, 1) from afar", x.go(0, 1), NOT);
        Check.due("go(0, 2)", x.go(0, 2), UNKNOWN);
        Check.due("go(2, 0)", x.go(2, 0), UNKNOWN);
        Check.due("go(0, -1)", x.go(0, -1), UNKNOWN);
        // 99: 89 79 70 61 53 45
        Check.due("go(0, 0)", x.go(0, 0), 45);
        Check.due("cart(0, 2)", x.cart(0, 2), 1);
        Check.due("cart(0, 3)", x.cart(0, 3), 6);
        // 45 - 7 = 38, less a tenth
        Check.due("go by bandits", x.go(0, 1), 35);
        // 35 - 6 = 29, less 2
        Check.due("go back by bandits", x.go(0, 1), 27);
        Check.due("place(1, 3)", x.place(1, 3), 1);
        Check.due("rest(1, 42)", x.rest(1, 42), 0);
        Check.due("go up to 48", x.go(1, 0), 0);
        Check.due("cart(1, 3)", x.cart(1, 3), 48);
        Check.due("go beyond 48", x.go(1, 0), FULL);
        Check.due("go beyond 48, from afar, too", x.go(1, 1), FULL);
        SnowCourse y = Check.told("mountain;city;road 0 1 6;cart 0 0");
        y.rest(0, 43);
        Check.due("go up to 49", y.go(0, 0), FULL);
        SnowCourse z = Check.told("mountain;city;city;bandits 1 2 1;cart 0 0");
        z.rest(0, 48);
        Check.due("go: NOT ahead of FULL", z.go(0, 0), NOT);
    }

    private static void goByNoonAndShade() {
        SnowCourse x = Check.told("mountain;city;shaded 0 1 3;road 0 1 3;cart 0 0;cart 0 0;old 0 2");
        Check.tell(x, "warm 14");
        x.rest(0, 14);
        x.rest(1, 14);
        x.rest(2, 14);
        x.fill(0, 64);
        x.fill(1, 64);
        x.fill(2, 64);
        // Twice 9 and 2, half: 53; twice 8, half: 45; 7 half: 42.
        Check.due("go in the shade", x.go(0, 0), 42);
        // 64 - 22 = 42, - 14 = 28, - 6 = 22.
        Check.due("go in the sun", x.go(1, 1), 22);
        // Twice 8 - 2 + 2: 48; twice 6 - 2: 40; 6 - 2: 36.
        Check.due("go, old, with straw", x.go(2, 1), 36);
        SnowCourse y = Check.told("mountain;city;shaded 0 1 1;cart 0 0;warm 12");
        y.rest(0, 12);
        y.fill(0, 1);
        Check.due("go in the shade: w at most, behind the half", y.go(0, 0), 0);
        SnowCourse z = Check.told("mountain;city;shaded 0 1 1;old 0 0");
        z.fill(0, 1);
        Check.due("go in the shade: half of 1 is cut", z.go(0, 0), 1);
    }

    private static void rest() {
        SnowCourse x = Check.told("mountain;city;road 0 1 1;cart 0 0");
        x.fill(0, 30);
        Check.due("rest(0, 0)", x.rest(0, 0), OUTSIDE);
        Check.due("rest(0, 49)", x.rest(0, 49), OUTSIDE);
        Check.due("rest(1, 0)", x.rest(1, 0), UNKNOWN);
        Check.due("rest(0, max)", x.rest(0, Integer.MAX_VALUE), OUTSIDE);
        Check.due("rest(0, 2)", x.rest(0, 2), 19);
        Check.due("cart(0, 3)", x.cart(0, 3), 2);
        Check.due("rest(0, 47)", x.rest(0, 47), FULL);
        Check.due("rest(0, 46)", x.rest(0, 46), 0);
        Check.due("rest(0, 1) in 48", x.rest(0, 1), FULL);
        Check.due("cart(0, 3)", x.cart(0, 3), 48);
        Check.due("fill in 48", x.fill(0, 4), 4);
        Check.due("as in 48", x.as(0, 0), 3);
    }

    /** One hour of rest, by kind and straw, of all amounts. */
    private static void melting() {
        int[] kind = {0, 1, 2, 0};
        int[] straw = {0, 1, 3, 2};
        for (int w = 1; w <= 99; w++) {
            SnowCourse x = Check.told("mountain;cart 0 0;old 0 1;stamped 0 3;cart 0 2");
            for (int cart = 0; cart < 4; cart++) {
                int lost = Math.max(0, (int) Math.sqrt(w) + 1 - kind[cart] - straw[cart]);
                x.fill(cart, w);
                Check.due("rest of " + w, x.rest(cart, 1), Math.max(0, w - lost));
            }
        }
    }

    private static void join() {
        SnowCourse x = Check.told("mountain;cellar;road 0 1 1;cart 0 0;old 0 0;cart 0 0");
        x.fill(0, 50);
        x.fill(1, 40);
        x.rest(1, 1);
        Check.due("join(0, 0)", x.join(0, 0), UNKNOWN);
        Check.due("join(0, 3)", x.join(0, 3), UNKNOWN);
        Check.due("join(-1, 0)", x.join(-1, 0), UNKNOWN);
        // 50 - 8 = 42 in the first one's rest; 40 - 6 = 34 was the other one's.
        Check.due("join(0, 1)", x.join(0, 1), 76);
        Check.due("cart(0, 3)", x.cart(0, 3), 1);
        Check.due("cart(0, 4)", x.cart(0, 4), 76);
        Check.due("cart(1, 3)", x.cart(1, 3), 1);
        Check.due("cart(1, 4)", x.cart(1, 4), 0);
        Check.due("cart(1, 2)", x.cart(1, 2), 0);
        x.fill(2, 33);
        // The third loses 6 till hour 1: 76 + 27 are above 99.
        Check.due("join above 99", x.join(0, 2), FULL);
        Check.due("cart(2, 3)", x.cart(2, 3), 0);
        x.undo();
        x.fill(2, 28);
        // 28 - 6 = 22; the second's hour, too, is the later one.
        Check.due("join of the later one", x.join(2, 0), 98);
        Check.due("cart(2, 3)", x.cart(2, 3), 1);
        Check.due("cart(0, 4)", x.cart(0, 4), 0);
        x.go(2, 0);
        Check.due("join from afar", x.join(2, 0), NOT);
        x.go(0, 0);
        x.rest(0, 3);
        Check.due("join in a cellar", x.join(0, 2), 88);
        SnowCourse y = Check.told("mountain;cart 0 0;cart 0 0");
        y.fill(0, 50);
        y.fill(1, 49);
        Check.due("join to 99", y.join(0, 1), 99);
        y.undo();
        y.fill(1, 1);
        Check.due("join to 100", y.join(0, 1), FULL);
    }

    private static void storeAndTake() {
        SnowCourse x = Check.told("mountain;cellar;city;road 0 1 1;road 1 2 1;cart 0 0;cart 1 0;cart 2 0");
        Check.due("store on a mountain", x.store(0), NOT);
        Check.due("store(3)", x.store(3), UNKNOWN);
        Check.due("take on a mountain", x.take(0, 1), NOT);
        Check.due("take(0, 0)", x.take(0, 0), OUTSIDE);
        Check.due("take(0, 100)", x.take(0, 100), OUTSIDE);
        Check.due("take(3, 0)", x.take(3, 0), UNKNOWN);
        Check.due("take of no stock", x.take(1, 1), NOT);
        x.fill(0, 99);
        x.go(0, 0);
        Check.due("store(0)", x.store(0), 89);
        Check.due("cart(0, 4)", x.cart(0, 4), 0);
        Check.due("store of nothing opens, too", x.store(1), 80);
        Check.due("place(1, 1)", x.place(1, 1), 80);
        Check.due("count(6)", x.count(6), 80);
        Check.due("take above it, behind the opening", x.take(1, 73), NOT);
        Check.due("take all of it", x.take(1, 72), 72);
        Check.due("place(1, 1)", x.place(1, 1), 0);
        x.undo();
        Check.due("take(1, 50)", x.take(1, 50), 50);
        Check.due("place(1, 1)", x.place(1, 1), 22);
        Check.due("take(1, 19): NOT", x.take(1, 19), NOT);
        Check.due("take(1, 18)", x.take(1, 18), 68);
        Check.due("place(1, 1)", x.place(1, 1), 0);
        Check.due("cart(1, 3): it is all in one hour", x.cart(1, 3), 0);
        SnowCourse y = Check.told("mountain;cellar;road 0 1 1;cart 0 0;cart 0 0");
        for (int cart = 0; cart < 2; cart++) {
            y.fill(cart, 99);
            y.go(cart, 0);
        }
        y.store(0);
        Check.due("take above 99", y.take(1, 11), FULL);
        Check.due("take above 99, and above stock", y.take(1, 81), NOT);
        Check.due("take to 99", y.take(1, 10), 99);
    }

    private static void sell() {
        SnowCourse x = Check.told("mountain;city;road 0 1 6;cart 0 0;stamped 0 3");
        x.fill(0, 99);
        Check.due("sell on a mountain", x.sell(0), NOT);
        Check.due("sell(2)", x.sell(2), UNKNOWN);
        x.go(0, 0);
        Check.due("sell(0) in hour 6", x.sell(0), 135);
        Check.due("cart(0, 4)", x.cart(0, 4), 0);
        Check.due("sell of nothing", x.sell(0), 0);
        x.fill(1, 20);
        x.rest(1, 12);
        x.go(1, 0);
        // 20 stays 20 in the calm, loses none: root 4 + 1 - 2 - 3.
        Check.due("sell(1) in hour 18", x.sell(1), 40);
        Check.due("count(4)", x.count(4), 175);
        x.undo();
        Check.due("count(4) behind undo()", x.count(4), 135);
        Check.due("cart(1, 4) behind undo()", x.cart(1, 4), 20);
    }

    private static void undo() {
        SnowCourse x = Check.told("mountain;cart 0 0");
        Check.due("undo() of nothing", x.undo(), NOT);
        for (int i = 1; i <= 10; i++) {
            x.fill(0, 1);
            Check.due("count(9)", x.count(9), Math.min(i, 8));
        }
        for (int i = 7; i >= 0; i--) {
            Check.due("undo()", x.undo(), i);
            Check.due("cart(0, 4)", x.cart(0, 4), i + 2);
        }
        Check.due("undo() beyond 8", x.undo(), NOT);
        Check.due("cart(0, 4)", x.cart(0, 4), 2);
        x.fill(0, 5);
        Check.due("undo() of one more", x.undo(), 0);
        Check.due("cart(0, 4)", x.cart(0, 4), 2);
    }

    private static void undoEachDeed() {
        SnowCourse x = Check.told("mountain;cellar;city;road 0 1 1;road 1 2 1;cart 0 0;cart 0 0");
        x.fill(0, 40);
        x.fill(1, 40);
        x.go(0, 0);
        x.go(1, 0);
        x.rest(1, 2);
        x.join(0, 1);
        x.store(0);
        x.take(1, 30);
        x.go(1, 1);
        x.sell(1);
        x.undo();
        Check.due("cart(1, 2) ahead of sell", x.cart(1, 2), 2);
        x.undo();
        Check.due("cart(1, 2) ahead of go", x.cart(1, 2), 1);
        Check.due("cart(1, 3) ahead of go", x.cart(1, 3), 3);
        Check.due("cart(1, 4) ahead of go", x.cart(1, 4), 30);
        x.undo();
        Check.due("place(1, 1) ahead of take", x.place(1, 1), 66);
        Check.due("cart(1, 4) ahead of take", x.cart(1, 4), 0);
        x.undo();
        Check.due("place(1, 1) ahead of store", x.place(1, 1), 0);
        Check.due("cart(0, 4) ahead of store", x.cart(0, 4), 66);
        x.undo();
        Check.due("cart(0, 3) ahead of join", x.cart(0, 3), 1);
        Check.due("cart(0, 4) ahead of join", x.cart(0, 4), 33);
        Check.due("cart(1, 4) ahead of join", x.cart(1, 4), 33);
        x.undo();
        Check.due("cart(1, 3) ahead of rest", x.cart(1, 3), 1);
    }

    private static void keepAndBack() {
        SnowCourse x = Check.told("mountain;city;road 0 1 1;cart 0 0");
        Check.due("keep(-1)", x.keep(-1), UNKNOWN);
        Check.due("keep(2)", x.keep(2), UNKNOWN);
        Check.due("back(2)", x.back(2), UNKNOWN);
        Check.due("back(-1)", x.back(-1), UNKNOWN);
        Check.due("back(0) of nothing", x.back(0), NOT);
        x.fill(0, 40);
        Check.due("keep(1)", x.keep(1), 1);
        Check.due("count(9): keep leaves it", x.count(9), 1);
        x.go(0, 0);
        x.sell(0);
        x.taker(4);
        x.put(7);
        Check.due("keep(0)", x.keep(0), 0);
        Check.due("back(1)", x.back(1), 1);
        Check.due("cart(0, 4)", x.cart(0, 4), 40);
        Check.due("cart(0, 2)", x.cart(0, 2), 0);
        Check.due("count(4)", x.count(4), 0);
        Check.due("count(7): takers stay", x.count(7), 1);
        Check.due("count(8): the row stays", x.count(8), 1);
        Check.due("undo() behind back()", x.undo(), NOT);
        x.fill(0, 5);
        Check.due("back(1) again", x.back(1), 1);
        Check.due("cart(0, 4)", x.cart(0, 4), 40);
        Check.due("back(0)", x.back(0), 0);
        Check.due("cart(0, 3)", x.cart(0, 3), 1);
        // 40 - 7 = 33, for 4 each.
        Check.due("count(4)", x.count(4), 132);
        x.keep(1);
        Check.due("back(1)", x.back(1), 1);
        Check.due("count(4) kept anew", x.count(4), 132);
        Check.write(x, "nothing");
        x.land();
        Check.due("back(0) behind a refused text", x.back(0), 0);
        x.erase();
        Check.tell(x, "calm");
        Check.due("back(0) behind a text", x.back(0), NOT);
        Check.due("back(1) behind a text", x.back(1), NOT);
    }
}
