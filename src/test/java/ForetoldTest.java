/** Promises 22 to 36: what is foretold, and counts. */
final class ForetoldTest {
    private static final int NONE = -1, UNKNOWN = -2, OUTSIDE = -3, NOT = -4, FULL = -5;

    public static void main(String[] args) {
        comes();
        fullCarts();
        straw();
        meet();
        meetOfTooMuch();
        takers();
        left();
        drip();
        seal();
        rent();
        around();
        aroundOfSeveral();
        row();
        pass();
        passOfAlike();
        winds();
        count();
        Check.end();
    }

    private static void comes() {
        SnowCourse x = Check.told("mountain;cellar;city;city;road 0 1 1;shaded 1 2 2;road 0 2 3;cart 0 0");
        Check.due("comes without snow", x.comes(0, 2, 0), 0);
        Check.due("comes without snow, soonest", x.comes(0, 2, 1), 3);
        Check.due("comes without snow, unlike", x.comes(0, 2, 2), 1);
        x.fill(0, 50);
        // By the cellar 42, then in the shade 39, 36; the plain road 42, 35, 29.
        Check.due("comes(0, 2, 0)", x.comes(0, 2, 0), 36);
        Check.due("comes(0, 2, 1)", x.comes(0, 2, 1), 3);
        Check.due("comes where it is", x.comes(0, 0, 0), 50);
        Check.due("comes where it is, soonest", x.comes(0, 0, 1), 0);
        Check.due("comes(0, 1, 0)", x.comes(0, 1, 0), 42);
        for (int what = 0; what < 3; what++) {
            Check.due("comes where no road leads", x.comes(0, 3, what), NONE);
        }
        Check.due("comes(0, 4, 0)", x.comes(0, 4, 0), UNKNOWN);
        Check.due("comes(1, 0, 0)", x.comes(1, 0, 0), UNKNOWN);
        Check.due("comes(1, 0, 9)", x.comes(1, 0, 9), UNKNOWN);
        Check.due("comes(0, 0, 3)", x.comes(0, 0, 3), OUTSIDE);
        Check.due("comes(0, 3, -1)", x.comes(0, 3, -1), OUTSIDE);
        Check.due("count(9): nothing changes", x.count(9), 1);
        Check.due("cart(0, 3): nothing changes", x.cart(0, 3), 0);
        SnowCourse y = Check.told("mountain;city;road 0 1 6;cart 0 0");
        y.rest(0, 42);
        y.fill(0, 40);
        // From 42 on: 33 27 21 16 11 7
        Check.due("comes just in hour 48", y.comes(0, 1, 0), 7);
        Check.due("comes just in hour 48", y.comes(0, 1, 1), 48);
        Check.due("comes just in hour 48", y.comes(0, 1, 2), 1);
        // 40 33 27 21 16 11 7
        Check.due("comes: unlike ones of resting", y.comes(0, 0, 2), 7);
        y.rest(0, 1);
        Check.due("comes beyond hour 48", y.comes(0, 1, 0), NONE);
        y.rest(0, 5);
        Check.due("comes in hour 48, where it is", y.comes(0, 0, 0), 7);
        Check.due("comes in hour 48, where it is", y.comes(0, 0, 1), 48);
        // Past noon it is better to go from the cellar: it waits there till hour 16.
        SnowCourse z = Check.told("cellar;city;mountain;road 0 1 2;road 2 0 1;cart 2 0");
        z.rest(0, 10);
        z.fill(0, 40);
        // 40 - 14 = 26 in the cellar; then 26 - 6 = 20, - 5 = 15.
        Check.due("comes behind noon", z.comes(0, 1, 0), 15);
        Check.due("comes behind noon, soonest", z.comes(0, 1, 1), 18);
    }

    private static void fullCarts() {
        SnowCourse x = Check.told("mountain;cart 0 0;stamped 0 3");
        x.fill(0, 99);
        x.rest(0, 46);
        x.fill(0, 99);
        // 99 89 79 in hours 46 47 48
        Check.due("comes of 99, unlike", x.comes(0, 0, 2), 3);
        Check.due("straw of 99", x.straw(0, 0, 99, 46), 0);
        Check.due("straw of 99 by hour 45", x.straw(0, 0, 99, 45), NONE);
    }

    private static void straw() {
        SnowCourse x = Check.told("mountain;city;city;road 0 1 2;cart 0 2");
        x.fill(0, 30);
        // Without straw 24, 19; with 1 25, 20; with 2 26, 22; with 3 27, 24.
        Check.due("straw of 19", x.straw(0, 1, 19, 48), 0);
        Check.due("straw of 20", x.straw(0, 1, 20, 48), 1);
        Check.due("straw of 21", x.straw(0, 1, 21, 48), 2);
        Check.due("straw of 23", x.straw(0, 1, 23, 2), 3);
        Check.due("straw of 24", x.straw(0, 1, 24, 2), 3);
        Check.due("straw of 25", x.straw(0, 1, 25, 48), NONE);
        Check.due("straw by hour 1", x.straw(0, 1, 0, 1), NONE);
        Check.due("straw by hour 2", x.straw(0, 1, 0, 2), 0);
        Check.due("straw where it is", x.straw(0, 0, 30, 0), 0);
        Check.due("straw of more than it has", x.straw(0, 0, 31, 48), NONE);
        Check.due("straw where no road leads", x.straw(0, 2, 0, 48), NONE);
        Check.due("straw(0, 3, ..)", x.straw(0, 3, 0, 0), UNKNOWN);
        Check.due("straw(1, ..)", x.straw(1, 0, 100, 0), UNKNOWN);
        Check.due("straw, n -1", x.straw(0, 1, -1, 0), OUTSIDE);
        Check.due("straw, n 100", x.straw(0, 1, 100, 0), OUTSIDE);
        Check.due("straw, h -1", x.straw(0, 1, 0, -1), OUTSIDE);
        Check.due("straw, h 49", x.straw(0, 1, 0, 49), OUTSIDE);
        Check.due("cart(0, 1): nothing changes", x.cart(0, 1), 2);
        x.rest(0, 5);
        Check.due("straw by an hour gone", x.straw(0, 0, 0, 4), NONE);
        Check.due("straw by this hour", x.straw(0, 0, 0, 5), 0);
    }

    private static void meet() {
        SnowCourse x = Check.told("mountain;mountain;cellar;city;city;road 0 2 1;road 1 2 3;road 2 3 1;"
                + "cart 0 0;stamped 1 3");
        x.fill(0, 50);
        x.fill(1, 50);
        // Plain: 42 in the cellar. Stamped: 47 45 43 (8 - 5, 7 - 5, 7 - 5). 85 in hour 3, then:
        // plain 85 - 10 = 75, stamped 85 - 5 = 80. Meeting in the city: 42 - 7 and 43 - 2 are 76.
        Check.due("meet(0, 1, 3, 0)", x.meet(0, 1, 3, 0), 76);
        Check.due("meet(0, 1, 3, 1)", x.meet(0, 1, 3, 1), 4);
        Check.due("meet(1, 0, 3, 0)", x.meet(1, 0, 3, 0), 80);
        Check.due("meet(1, 0, 3, 1)", x.meet(1, 0, 3, 1), 4);
        Check.due("meet in the cellar", x.meet(0, 1, 2, 0), 85);
        Check.due("meet in the cellar", x.meet(0, 1, 2, 1), 3);
        Check.due("meet where no road leads", x.meet(0, 1, 4, 0), NONE);
        Check.due("meet where no road leads", x.meet(0, 1, 4, 1), NONE);
        Check.due("meet(0, 0, ..)", x.meet(0, 0, 3, 0), UNKNOWN);
        Check.due("meet(0, 2, ..)", x.meet(0, 2, 3, 0), UNKNOWN);
        Check.due("meet(-1, 0, ..)", x.meet(-1, 0, 3, 0), UNKNOWN);
        Check.due("meet(0, 1, 5, ..)", x.meet(0, 1, 5, 2), UNKNOWN);
        Check.due("meet(0, 1, 3, 2)", x.meet(0, 1, 3, 2), OUTSIDE);
        Check.due("meet(0, 1, 3, -1)", x.meet(0, 1, 3, -1), OUTSIDE);
        SnowCourse y = Check.told("mountain;city;road 0 1 6;cart 0 0;cart 1 0");
        y.rest(0, 43);
        Check.due("meet of those who can go no more then", y.meet(0, 1, 0, 0), 0);
        Check.due("meet of those who can go no more then", y.meet(0, 1, 0, 1), 43);
        Check.due("meet of those who can go no more then", y.meet(0, 1, 1, 0), NONE);
        y.rest(1, 43);
        Check.due("meet of those who cannot", y.meet(0, 1, 0, 0), NONE);
        Check.due("meet of those who cannot", y.meet(0, 1, 1, 0), NONE);
        Check.due("meet of those who cannot", y.meet(0, 1, 1, 1), NONE);
    }

    private static void meetOfTooMuch() {
        SnowCourse x = Check.told("cellar;mountain;road 0 1 1;cart 1 0;cart 1 0;cart 0 0");
        x.fill(0, 99);
        x.fill(1, 1);
        // In hour 0 they are 100 together; in hour 1 99 is 89, and the other one's pound is gone.
        Check.due("meet above 99", x.meet(0, 1, 1, 0), 89);
        Check.due("meet above 99, soonest", x.meet(0, 1, 1, 1), 1);
        SnowCourse y = Check.told("mountain;cart 0 0;cart 0 0");
        y.fill(0, 50);
        y.fill(1, 49);
        Check.due("meet of 99 now", y.meet(0, 1, 0, 0), 99);
        Check.due("meet of 99 now", y.meet(0, 1, 0, 1), 0);
    }

    private static void takers() {
        SnowCourse x = new SnowCourse();
        Check.due("dismiss() of none", x.dismiss(), 0);
        Check.due("taker(0)", x.taker(0), OUTSIDE);
        Check.due("taker(31)", x.taker(31), OUTSIDE);
        for (int i = 1; i <= 5; i++) {
            Check.due("taker(30)", x.taker(30), i);
        }
        Check.due("a sixth taker", x.taker(1), FULL);
        Check.due("taker(31), a sixth", x.taker(31), OUTSIDE);
        Check.due("count(7)", x.count(7), 5);
        Check.due("dismiss()", x.dismiss(), 5);
        Check.due("count(7)", x.count(7), 0);
        Check.due("taker(1)", x.taker(1), 1);
    }

    private static void left() {
        SnowCourse x = new SnowCourse();
        Check.due("left without takers", x.left(7, 7, 0), 1);
        Check.due("left without takers", x.left(7, 7, 1), 0);
        Check.due("left without takers", x.left(7, 6, 0), 0);
        Check.due("left without takers", x.left(7, 6, 1), NONE);
        x.taker(5);
        x.taker(5);
        x.taker(10);
        // 40 - 6 - 5 = 29, once more - 5 - 5 = 19; 40 - 6 - 10 = 24.
        Check.due("left(40, 29, 0)", x.left(40, 29, 0), 2);
        Check.due("left(40, 29, 1)", x.left(40, 29, 1), 1);
        Check.due("left(40, 19, 1)", x.left(40, 19, 1), 3);
        Check.due("left(40, 24, 1)", x.left(40, 24, 1), 4);
        // 29 - 5 - 10 = 14 by the first or the second and the third.
        Check.due("left(40, 14, 0)", x.left(40, 14, 0), 2);
        Check.due("left(40, 14, 1)", x.left(40, 14, 1), 5);
        // 7 - 2 = 5 is taken wholly; 6 - 2 = 4 is too little.
        Check.due("left(7, 0, 0)", x.left(7, 0, 0), 2);
        Check.due("left(6, 0, 0)", x.left(6, 0, 0), 0);
        Check.due("left(0, 0, 1)", x.left(0, 0, 1), 0);
        Check.due("left(999, 999, 1)", x.left(999, 999, 1), 0);
        Check.due("left(999, 963, 1)", x.left(999, 963, 1), 1);
        Check.due("left(-1, 0, 0)", x.left(-1, 0, 0), OUTSIDE);
        Check.due("left(1000, 0, 0)", x.left(1000, 0, 0), OUTSIDE);
        Check.due("left(0, -1, 0)", x.left(0, -1, 0), OUTSIDE);
        Check.due("left(0, 1000, 0)", x.left(0, 1000, 0), OUTSIDE);
        Check.due("left(0, 0, 2)", x.left(0, 0, 2), OUTSIDE);
        Check.due("left(0, 0, -1)", x.left(0, 0, -1), OUTSIDE);
        SnowCourse y = new SnowCourse();
        y.taker(1);
        y.taker(30);
        // In their turns: 36 - 6 - 1 = 29, - 5 = 24 is too little for 30.
        Check.due("left(36, 0, 0)", y.left(36, 0, 0), 1);
        Check.due("left(36, 0, 1)", y.left(36, 0, 1), 2);
    }

    private static void drip() {
        SnowCourse x = Check.told("mountain;city;cellar;road 0 1 2;road 1 0 2;bandits 0 1 2;shaded 0 1 4;"
                + "road 0 2 2;cart 0 0");
        x.fill(0, 50);
        Check.due("drip of 35", x.drip(0, 1, 35), 3);
        Check.due("drip of 32", x.drip(0, 1, 32), 4);
        Check.due("drip of 37", x.drip(0, 1, 37), 8);
        Check.due("drip of 36", x.drip(0, 1, 36), 0);
        Check.due("drip to a cellar", x.drip(0, 2, 35), 16);
        Check.due("drip where it is", x.drip(0, 0, 35), UNKNOWN);
        Check.due("drip where it is, of 100", x.drip(0, 0, 100), UNKNOWN);
        Check.due("drip(0, 3, ..)", x.drip(0, 3, 35), UNKNOWN);
        Check.due("drip(1, 1, ..)", x.drip(1, 1, 35), UNKNOWN);
        Check.due("drip of -1", x.drip(0, 1, -1), OUTSIDE);
        Check.due("drip of 100", x.drip(0, 1, 100), OUTSIDE);
        x.rest(0, 46);
        Check.due("drip up to hour 48", x.drip(0, 1, 0), 7);
        x.rest(0, 1);
        Check.due("drip beyond hour 48", x.drip(0, 1, 0), 0);
    }

    private static void seal() {
        SnowCourse x = new SnowCourse();
        long[][] told = {
            {0, 6, 5, 0, 1}, {10, 1, 5, 40, 1}, {9, 2, 5, 81, 2}, {99, 6, 10, 495, 1}, {99, 6, 0, 297, 1},
            {64, 3, 4, 36544, 125}, {1, 1, 1, 16, 5}, {1, 1, 3, 18, 5}, {99, 1, 7, 2178, 5}
        };
        for (long[] row : told) {
            for (int part = 0; part < 2; part++) {
                Check.due("seal(" + row[0] + ", " + row[1] + ", " + row[2] + ", " + part + ")",
                        x.seal((int) row[0], (int) row[1], (int) row[2], part), row[3 + part]);
            }
        }
        Check.due("seal, s -1", x.seal(-1, 1, 0, 0), OUTSIDE);
        Check.due("seal, s 100", x.seal(100, 1, 0, 0), OUTSIDE);
        Check.due("seal, d 0", x.seal(1, 0, 0, 0), OUTSIDE);
        Check.due("seal, d 7", x.seal(1, 7, 0, 0), OUTSIDE);
        Check.due("seal, p -1", x.seal(1, 1, -1, 0), OUTSIDE);
        Check.due("seal, p 11", x.seal(1, 1, 11, 0), OUTSIDE);
        Check.due("seal, part 2", x.seal(1, 1, 1, 2), OUTSIDE);
        Check.due("seal, part -1", x.seal(1, 1, 1, -1), OUTSIDE);
    }

    private static void rent() {
        SnowCourse x = Check.told("mountain;city;city;road 0 1 2;shaded 0 1 4;bandits 0 2 6;road 1 2 1;cart 0 0");
        x.fill(0, 50);
        // 35 for 4 is 140; 37 for 4 is 148; 42 35 29 23 18 13, less 1, for 3 is 36.
        Check.due("rent(0, 1, 0)", x.rent(0, 1, 0), 9999 + 8);
        Check.due("rent(0, 0, 1)", x.rent(0, 0, 1), 9999 - 8);
        Check.due("rent(0, 0, 2)", x.rent(0, 0, 2), 9999 + 104);
        Check.due("rent(0, 0, 0)", x.rent(0, 0, 0), UNKNOWN);
        Check.due("rent(0, 0, 4)", x.rent(0, 0, 4), UNKNOWN);
        Check.due("rent(0, -1, 0)", x.rent(0, -1, 0), UNKNOWN);
        Check.due("rent(1, 0, 1)", x.rent(1, 0, 1), UNKNOWN);
        Check.due("rent(0, 0, 3)", x.rent(0, 0, 3), NOT);
        Check.due("rent(0, 3, 0)", x.rent(0, 3, 0), NOT);
        Check.due("rent(0, 3, 3)", x.rent(0, 3, 3), UNKNOWN);
        x.rest(0, 42);
        Check.due("rent up to hour 48", x.rent(0, 0, 2), 9999);
        x.rest(0, 1);
        Check.due("rent beyond hour 48", x.rent(0, 0, 2), NOT);
        Check.due("rent beyond hour 48", x.rent(0, 2, 0), NOT);
        Check.due("rent of the two others", x.rent(0, 0, 1), 9999);
    }

    private static void around() {
        SnowCourse x = Check.told("city;crossing;crossing;mountain;city;bandits 0 1 1;road 1 3 1;road 0 2 6;"
                + "shaded 2 3 6;bandits 0 3 1;bandits 3 4 2;bandits 4 3 1");
        int[][] told = {
            {3, 0, 0, 12, 3}, {0, 3, 0, 12, 2}, {0, 0, 0, 0, NONE}, {1, 0, 0, 13, 1}, {1, 2, 0, 7, 1},
            {0, 4, 1, 13, 2}, {4, 0, 1, 13, 6}, {4, 4, 0, 0, NONE}
        };
        for (int[] row : told) {
            for (int what = 0; what < 3; what++) {
                Check.due("around(" + row[0] + ", " + row[1] + ", " + what + ")",
                        x.around(row[0], row[1], what), row[2 + what]);
            }
        }
        Check.due("around(5, 0, 0)", x.around(5, 0, 0), UNKNOWN);
        Check.due("around(0, -1, 9)", x.around(0, -1, 9), UNKNOWN);
        Check.due("around(0, 0, 3)", x.around(0, 0, 3), OUTSIDE);
        Check.due("around(0, 0, -1)", x.around(0, 0, -1), OUTSIDE);
        Check.tell(x, "city");
        for (int what = 0; what < 3; what++) {
            Check.due("around without a way", x.around(0, 5, what), NONE);
        }
    }

    private static void aroundOfSeveral() {
        SnowCourse x = Check.told("city;crossing;crossing;mountain;road 1 3 4;road 3 2 2;road 0 2 3;road 0 1 1;"
                + "road 0 3 5");
        Check.due("around, first of three", x.around(0, 3, 2), 2);
        Check.due("around, first of three", x.around(3, 0, 2), 0);
        Check.due("around, hours", x.around(3, 0, 1), 5);
        SnowCourse y = Check.told("city;city;bandits 0 1 1;road 0 1 6;road 1 0 6");
        Check.due("around, alike", y.around(0, 1, 2), 1);
        SnowCourse z = Check.told("crossing;crossing;crossing;crossing;crossing;crossing;crossing;bandits 0 1 6");
        Check.tell(z, "bandits 1 2 6;bandits 2 3 6;bandits 3 4 6;bandits 4 5 6;bandits 5 6 6");
        Check.due("around, the longest", z.around(0, 6, 0), 6);
        Check.due("around, the longest", z.around(6, 0, 1), 36);
        Check.due("around, the longest", z.around(6, 0, 2), 5);
    }

    private static void row() {
        SnowCourse x = new SnowCourse();
        Check.due("wipe() of nothing", x.wipe(), 0);
        Check.due("put(0)", x.put(0), OUTSIDE);
        Check.due("put(100)", x.put(100), OUTSIDE);
        for (int i = 1; i <= 5; i++) {
            Check.due("put(99)", x.put(i == 1 ? 1 : 99), i);
        }
        Check.due("a sixth load", x.put(1), FULL);
        Check.due("put(100), a sixth", x.put(100), OUTSIDE);
        Check.due("count(8)", x.count(8), 5);
        Check.due("wipe()", x.wipe(), 5);
        Check.due("count(8)", x.count(8), 0);
        Check.due("pass of an empty row", x.pass(0, NONE), 0);
    }

    private static void pass() {
        SnowCourse x = Check.told("city;warm 20;warm 21");
        x.put(30);
        x.put(9);
        // 30 and 5, or 9 and 24; in hour 12 30 and 1, or 9 and 18; in hour 20 30 and 3, or 9 and 22.
        Check.due("pass(0, NONE)", x.pass(0, NONE), 35);
        Check.due("pass(0, 0)", x.pass(0, 0), 0);
        Check.due("pass(0, 1)", x.pass(0, 1), 1);
        Check.due("pass(12, NONE)", x.pass(12, NONE), 31);
        Check.due("pass(20, NONE)", x.pass(20, NONE), 33);
        Check.due("pass(0, 2)", x.pass(0, 2), NONE);
        Check.due("pass(0, max)", x.pass(0, Integer.MAX_VALUE), NONE);
        Check.due("pass(0, -2)", x.pass(0, -2), OUTSIDE);
        Check.due("pass(0, min)", x.pass(0, Integer.MIN_VALUE), OUTSIDE);
        Check.due("pass(-1, 0)", x.pass(-1, 0), OUTSIDE);
        Check.due("pass(44, 0)", x.pass(44, 0), OUTSIDE);
        Check.due("pass(43, NONE)", x.pass(43, NONE), 35);
        x.wipe();
        x.put(9);
        x.put(30);
        Check.due("pass(0, 0), the other way", x.pass(0, 0), 1);
        Check.due("pass(0, 1), the other way", x.pass(0, 1), 0);
    }

    private static void passOfAlike() {
        SnowCourse x = new SnowCourse();
        x.put(9);
        x.put(9);
        x.put(9);
        for (int k = 0; k < 3; k++) {
            Check.due("pass of alike ones", x.pass(0, k), k);
        }
        x.wipe();
        x.put(1);
        x.put(16);
        x.put(20);
        // 16 is 11 in the second turn, 20 is 15, 1 is gone: 31 each way, so 16 is ahead.
        Check.due("pass of 16 and 20", x.pass(0, 0), 1);
        Check.due("pass of 16 and 20", x.pass(0, 1), 2);
        Check.due("pass of 16 and 20", x.pass(0, 2), 0);
        Check.due("pass of 16 and 20", x.pass(0, NONE), 31);
    }

    private static void winds() {
        SnowCourse x = new SnowCourse();
        Check.due("winds, n 0", x.winds(5, 0, 99, 0), 0);
        Check.due("winds, n 0", x.winds(5, 0, 99, 1), 99);
        Check.due("winds, w 0", x.winds(5, 24, 0, 1), 0);
        // z 0: x is 1, 6152, 12303: draws 1, 41487, 10299: modulo 4 are 1, 3, 3, none of them warm.
        Check.due("winds(0, 3, 50, 0)", x.winds(0, 3, 50, 0), 0);
        Check.due("winds(0, 3, 50, 1)", x.winds(0, 3, 50, 1), 29);
        Check.due("winds(0, 24, 50, 0)", x.winds(0, 24, 50, 0), 9);
        Check.due("winds(123, 12, 80, 0)", x.winds(123, 12, 80, 0), 3);
        Check.due("winds, z -1", x.winds(-1, 0, 0, 0), OUTSIDE);
        Check.due("winds, z 10000", x.winds(10000, 0, 0, 0), OUTSIDE);
        Check.due("winds, n -1", x.winds(0, -1, 0, 0), OUTSIDE);
        Check.due("winds, n 25", x.winds(0, 25, 0, 0), OUTSIDE);
        Check.due("winds, w -1", x.winds(0, 0, -1, 0), OUTSIDE);
        Check.due("winds, w 100", x.winds(0, 0, 100, 0), OUTSIDE);
        Check.due("winds, what -1", x.winds(0, 0, 0, -1), OUTSIDE);
        Check.due("winds, what 2", x.winds(0, 0, 0, 2), OUTSIDE);
        SnowCourse y = Check.told("warm 0;warm 1;warm 2");
        Check.due("winds of a warm country", y.winds(0, 3, 50, 1), 29);
        Check.due("winds of a warm country", y.winds(0, 3, 50, 0), 0);
    }

    private static void count() {
        SnowCourse x = Check.told("mountain;cellar;city;road 0 1 1;road 0 2 1;cart 0 0;cart 0 0;cart 0 0;warm 40");
        x.fill(0, 50);
        x.fill(1, 30);
        x.fill(2, 9);
        x.go(0, 0);
        x.store(0);
        x.go(1, 1);
        x.sell(1);
        x.taker(1);
        x.taker(2);
        x.put(7);
        Check.write(x, "la");
        int[] want = {3, 2, 3, 1, 96, 9, 42, 2, 1, 7, 2};
        for (int what = 0; what < want.length; what++) {
            Check.due("count(" + what + ")", x.count(what), want[what]);
        }
        Check.due("count(-1)", x.count(-1), OUTSIDE);
        Check.due("count(11)", x.count(11), OUTSIDE);
    }
}
