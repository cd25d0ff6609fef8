/** Edges of promises 1 to 11; each method is headed by the words of ../shared/DOC.md that it looks at. */
final class ToldEdgesTest {
    private static final int NONE = -1, UNKNOWN = -2, OUTSIDE = -3, NOT = -4, FULL = -5;
    private static final int MIN = Integer.MIN_VALUE, MAX = Integer.MAX_VALUE;
    private static final String[] WORDS_OF_PLACES = {"crossing", "mountain", "cellar", "city"};
    private static final String[] WORDS_OF_ROADS = {"road", "shaded", "bandits"};
    private static final String[] WORDS_OF_CARTS = {"cart", "old", "stamped"};

    public static void main(String[] args) {
        nothingAtFirst();
        letters();
        aFullText();
        erase();
        anyLetterForItself();
        anyLetterBehindAWord();
        anyLetterBehindANumber();
        anyLetterForANumber();
        words();
        theEndTooSoon();
        theEndAheadOfOldLetters();
        theEndOfAFullText();
        blanks();
        fourteenClauses();
        sevenPlaces();
        nineRoads();
        fourCarts();
        numbersOfRoads();
        numbersOfCarts();
        numbersOfWarm();
        digits();
        placesOfClausesAhead();
        firstOfTwoFaults();
        clausesInTheirOrder();
        landIsAllAsAtFirst();
        landCounts();
        landRefused();
        behindAText();
        place();
        road();
        cart();
        as();
        asInItsHour();
        roadAs();
        price();
        Check.end();
    }

    // ---- promise 1

    /** "No PLACES"; "none at first", of places, roads, carts and warm hours. */
    private static void nothingAtFirst() {
        Twins at = Worlds.fresh();
        at.unchanged("place(0, 0)", x -> x.place(0, 0), UNKNOWN);
        at.unchanged("road(0, 0)", x -> x.road(0, 0), UNKNOWN);
        at.unchanged("cart(0, 0)", x -> x.cart(0, 0), UNKNOWN);
        at.unchanged("as(0, 0)", x -> x.as(0, 0), UNKNOWN);
        at.unchanged("roadAs(0, 0)", x -> x.roadAs(0, 0), UNKNOWN);
        at.unchanged("fill(0, 1)", x -> x.fill(0, 1), UNKNOWN);
        at.unchanged("go(0, 0)", x -> x.go(0, 0), UNKNOWN);
        at.unchanged("rest(0, 1)", x -> x.rest(0, 1), UNKNOWN);
        at.unchanged("join(0, 1)", x -> x.join(0, 1), UNKNOWN);
        at.unchanged("store(0)", x -> x.store(0), UNKNOWN);
        at.unchanged("take(0, 1)", x -> x.take(0, 1), UNKNOWN);
        at.unchanged("sell(0)", x -> x.sell(0), UNKNOWN);
        at.unchanged("undo()", x -> x.undo(), NOT);
        at.unchanged("back(0)", x -> x.back(0), NOT);
        at.unchanged("back(1)", x -> x.back(1), NOT);
        at.unchanged("comes(0, 0, 0)", x -> x.comes(0, 0, 0), UNKNOWN);
        at.unchanged("straw(0, 0, 0, 0)", x -> x.straw(0, 0, 0, 0), UNKNOWN);
        at.unchanged("meet(0, 1, 0, 0)", x -> x.meet(0, 1, 0, 0), UNKNOWN);
        at.unchanged("drip(0, 1, 0)", x -> x.drip(0, 1, 0), UNKNOWN);
        at.unchanged("rent(0, 0, 1)", x -> x.rent(0, 0, 1), UNKNOWN);
        at.unchanged("around(0, 0, 0)", x -> x.around(0, 0, 0), UNKNOWN);
        for (int what = 0; what <= 10; what++) {
            int asked = what;
            at.unchanged("count(" + what + ")", x -> x.count(asked), 0);
        }
        // What is kept of nothing is nothing, and can be taken back.
        SnowCourse x = at.answers("keep(0)", y -> y.keep(0), 0);
        Check.due("back(0) of a new object", x.back(0), 0);
        Check.due("back(1) of a new object", x.back(1), NOT);
    }

    // ---- promises 2, 3

    /** "A letter (its number, 0 .. 255) more of THE TEXT: how many it has. OUTSIDE". */
    private static void letters() {
        Twins at = Worlds.fresh();
        int[] outside = {MIN, -1, 256, MAX};
        for (int letter : outside) {
            at.unchanged("write(" + letter + ")", x -> x.write(letter), OUTSIDE);
            Worlds.busy().unchanged("write(" + letter + ")", x -> x.write(letter), OUTSIDE);
        }
        at.answers("write(0)", x -> x.write(0), 1);
        at.answers("write(255)", x -> x.write(255), 1);
        SnowCourse x = new SnowCourse();
        Check.write(x, "cal");
        Check.due("write(365), 'm' in its lowest bits", x.write(365), OUTSIDE);
        Check.due("write(109)", x.write(109), 4);
        Check.due("fault(): no letter but the four", x.fault(), NONE);
        SnowCourse y = Check.told("warm 7");
        Check.write(y, "calm");
        y.write(255);
        Check.due("fault() of a letter 255", y.fault(), 4);
    }

    /** "THE TEXT is a row of letters, 160 at most"; "FULL"; OUTSIDE is ahead of it. */
    private static void aFullText() {
        Twins at = new Twins("160 letters", x -> Check.write(x, "calm" + " ".repeat(156)));
        at.unchanged("write(32), the 161st", x -> x.write(32), FULL);
        at.unchanged("write(120), the 161st", x -> x.write(120), FULL);
        at.unchanged("write(0), the 161st", x -> x.write(0), FULL);
        at.unchanged("write(255), the 161st", x -> x.write(255), FULL);
        at.unchanged("write(256), the 161st", x -> x.write(256), OUTSIDE);
        at.unchanged("write(-1), the 161st", x -> x.write(-1), OUTSIDE);
        at.answers("count(10)", x -> x.count(10), 160);
        at.answers("fault()", x -> x.fault(), NONE);
        SnowCourse x = at.answers("land()", y -> y.land(), 1);
        Check.due("write(32) behind land()", x.write(32), 1);
        Twins last = new Twins("159 letters", y -> Check.write(y, "calm" + " ".repeat(155)));
        SnowCourse z = last.answers("write(122), the 160th", y -> y.write(122), 160);
        Check.due("fault() at the 160th", z.fault(), 159);
        String most = "stamped 10 10;".repeat(11);
        SnowCourse w = new SnowCourse();
        Check.write(w, most + "bandit");
        Check.due("count(10)", w.count(10), 160);
        Check.due("fault()", w.fault(), 8);
        // Fourteen clauses in 160 letters, the last one in the last four of them.
        SnowCourse v = new SnowCourse();
        Check.write(v, "calm;".repeat(13) + " ".repeat(91) + "city");
        Check.due("fault() of 160 letters", v.fault(), NONE);
        Check.due("land() of 160 letters", v.land(), 14);
        Check.due("count(0)", v.count(0), 1);
    }

    /** "THE TEXT is empty: how many letters it had". */
    private static void erase() {
        Worlds.fresh().unchanged("erase() of nothing", x -> x.erase(), 0);
        SnowCourse x = Worlds.busy().answers("erase()", y -> y.erase(), 13);
        Check.due("count(10)", x.count(10), 0);
        Check.due("erase() again", x.erase(), 0);
        // Nothing but the text has changed: the same text again, and it is as it was.
        Worlds.busy().unchanged("erase(), and written again", y -> {
            y.erase();
            Check.write(y, "city;road 0 9");
            return y.count(10);
        }, 13);
        SnowCourse z = new SnowCourse();
        Check.write(z, "z".repeat(160));
        Check.due("erase() of 160", z.erase(), 160);
        Check.write(z, "city");
        Check.due("fault(): nothing of the 160 is left", z.fault(), NONE);
    }

    // ---- promise 4

    private static void faultOf(String text, int want) {
        faultOn(new SnowCourse(), text, want);
    }

    private static void faultOn(SnowCourse x, String text, int want) {
        x.erase();
        Check.write(x, text);
        Check.due("fault() of '" + text + "'", x.fault(), want);
        Check.due("fault() of '" + text + "' again", x.fault(), want);
    }

    private static boolean isSmall(int letter) {
        return letter >= 97 && letter <= 122;
    }

    private static boolean isDigit(int letter) {
        return letter >= 48 && letter <= 57;
    }

    /** "the first TOKEN (a row of small letters, a row of digits, any other letter) that cannot stand there". */
    private static void anyLetterForItself() {
        for (int letter = 0; letter <= 255; letter++) {
            faultOf(String.valueOf((char) letter), letter == 32 ? 1 : 0);
            faultOf("calm;" + (char) letter, letter == 32 ? 6 : 5);
        }
    }

    /** "small letters a .. z": a word goes on through them, and through nothing else. */
    private static void anyLetterBehindAWord() {
        for (int letter = 0; letter <= 255; letter++) {
            int want = isSmall(letter) ? 0 : letter == 32 ? NONE : letter == ';' ? 5 : 4;
            faultOf("calm" + (char) letter, want);
        }
    }

    /** "a row of digits": a number goes on through digits 0 .. 9, and through nothing else. */
    private static void anyLetterBehindANumber() {
        for (int letter = 0; letter <= 255; letter++) {
            int want = isDigit(letter) || letter == 32 ? NONE : letter == ';' ? 7 : 6;
            faultOf("warm 1" + (char) letter, want);
        }
    }

    /** "a row of digits": no other letter is a number. */
    private static void anyLetterForANumber() {
        String[] heads = {"warm ", "city;city;road ", "city;city;road 0 ", "city;city;road 0 1 ", "city;cart ", "city;cart 0 "};
        String[] well = {"0123456789", "0", "1", "123456", "0", "0123"};
        String[] tails = {"", " 1 1", " 1", "", " 0", ""};
        for (int i = 0; i < heads.length; i++) {
            for (int letter = 0; letter <= 255; letter++) {
                String text = heads[i] + (char) letter + tails[i];
                // A second 1 would have its fault at B, not here.
                if (letter != 32 && (i != 1 || letter != '1')) {
                    faultOf(text, well[i].indexOf(letter) >= 0 ? NONE : heads[i].length());
                }
            }
        }
        faultOf("warm ab", 5);
        faultOf("warm  ", 6);
        faultOf("warm ;calm", 5);
    }

    /** "each is one of: land. crossing. .. calm. (As written here, without points ..)". */
    private static void words() {
        String[] clauses = {"land", "crossing", "mountain", "cellar", "city", "road 0 1 1", "shaded 0 1 1",
            "bandits 0 1 1", "cart 0 0", "old 0 0", "stamped 0 0", "warm 0", "calm"};
        for (String clause : clauses) {
            String word = clause.split(" ")[0];
            String numbers = clause.substring(word.length());
            faultOf("city;city;" + word + numbers, NONE);
            faultOf("city;city;" + word.substring(1) + numbers, 10);
            faultOf("city;city;" + word.substring(0, word.length() - 1) + numbers, 10);
            faultOf("city;city;" + word + "s" + numbers, 10);
            faultOf("city;city;a" + word + numbers, 10);
            faultOf("city;city;" + word.substring(0, 1).toUpperCase() + word.substring(1) + numbers, 10);
            faultOf("city;city;" + word.substring(0, word.length() - 1) + "z" + numbers, 10);
            faultOf("city;city;z" + word.substring(1) + numbers, 10);
            faultOf("city;city;" + clause + ".", 10 + clause.length());
            faultOf("city;city;" + clause + " 1", 11 + clause.length());
            faultOf("city;city;" + clause + " calm", 11 + clause.length());
        }
    }

    /** "or at the end, if it comes too soon": the text cut behind each of its letters. */
    private static void theEndTooSoon() {
        String text = "city;city;old 1 3;road 0 1 6;warm 47";
        int[] want = {0, 0, 0, 0, NONE, 5, 5, 5, 5, NONE, 10, 10, 10, 13, 14, 15, 16, NONE, 18, 18, 18, 18, 22, 23, 24,
            25, 26, 27, NONE, 29, 29, 29, 29, 33, 34, NONE, NONE};
        for (int length = 0; length <= text.length(); length++) {
            faultOf(text.substring(0, length), want[length]);
        }
        faultOf("city;  ", 7);
        faultOf("warm   ", 7);
        faultOf("city;cart 0   ", 14);
    }

    /** "THE TEXT is empty": the end comes too soon, though letters that would go on stood there once. */
    private static void theEndAheadOfOldLetters() {
        String text = "city;city;old 1 3;road 0 1 6;warm 47";
        int[] ends = {10, 13, 14, 15, 16, 18, 22, 23, 24, 25, 26, 27, 29, 33, 34};
        for (int end : ends) {
            SnowCourse x = new SnowCourse();
            Check.write(x, text);
            faultOn(x, text.substring(0, end), end);
        }
        SnowCourse y = Check.told("warm 47");
        faultOn(y, "warm ", 5);
        faultOn(y, "warm", 4);
        faultOn(y, "war", 0);
        faultOn(y, "warm 4", NONE);
        Check.due("land()", y.land(), 1);
        Check.due("pass of 9 behind hour 4", warmAlone(y, 4), 3);
        Check.due("pass of 9 behind hour 5", warmAlone(y, 5), 5);
    }

    /** What of 9 pounds is left that wait in that hour: 5, and 3 if it is warm. */
    private static int warmAlone(SnowCourse x, int hour) {
        x.wipe();
        x.put(9);
        x.put(9);
        return x.pass(hour, NONE) - 9;
    }

    /** "or at the end, if it comes too soon", where the text is full. */
    private static void theEndOfAFullText() {
        String[] tails = {";", ";city;city;road", ";city;city;road 0", ";city;city;road 0 1", ";city;cart", ";city;cart 0", ";warm"};
        for (String tail : tails) {
            faultOf("calm" + " ".repeat(156 - tail.length()) + tail, 160);
            faultOf("calm" + " ".repeat(155 - tail.length()) + tail + " ", 160);
        }
        faultOf("calm" + " ".repeat(149) + ";warm 4", NONE);
        faultOf("calm" + " ".repeat(148) + ";warm 47", NONE);
        faultOf("calm" + " ".repeat(148) + ";warm 48", 158);
        faultOf("calm" + " ".repeat(147) + ";warm 047", 157);
        faultOf("calm" + " ".repeat(151) + ";city", NONE);
        faultOf("calm" + " ".repeat(152) + ";cit", 157);
        faultOf(" ".repeat(160), 160);
    }

    /** "blanks between". */
    private static void blanks() {
        faultOf(" ", 1);
        faultOf("  city  ;  city  ;  road  0  1  6  ", NONE);
        faultOf("ci ty", 0);
        faultOf("warm 4 7", 7);
        faultOf("warm7", NONE);
        faultOf("city;city;road0 1 6", NONE);
        faultOf("city\tcity", 4);
        faultOf("warm\t7", 4);
        faultOf("   x", 3);
    }

    private static String times(int n, String clause) {
        StringBuilder text = new StringBuilder();
        for (int i = 0; i < n; i++) {
            text.append(i == 0 ? "" : ";").append(clause);
        }
        return text.toString();
    }

    /** "CLAUSES with ; between, 14 at most". */
    private static void fourteenClauses() {
        for (int n = 1; n <= 14; n++) {
            faultOf(times(n, "calm"), NONE);
        }
        // No clause can follow, so the ; behind the fourteenth cannot stand there.
        faultOf(times(15, "calm"), 69);
        faultOf(times(16, "calm"), 69);
        faultOf(times(14, "calm") + "  ;", 71);
        faultOf(times(13, "calm") + ";", 65);
        faultOf(";", 0);
        faultOf("calm;;", 5);
        faultOf("calm:calm", 4);
        SnowCourse x = Check.told(times(14, "calm"));
        faultOn(x, times(14, "land"), NONE);
    }

    /** "PLACES .. 7 at most"; "an eighth .. cannot stand there (at its word)". */
    private static void sevenPlaces() {
        faultOf("crossing;mountain;cellar;city;crossing;mountain;cellar", NONE);
        SnowCourse six = Check.told(times(6, "city"));
        SnowCourse seven = Check.told(times(7, "mountain"));
        for (String word : WORDS_OF_PLACES) {
            faultOf(times(7, word), NONE);
            faultOf(times(8, word), 7 * (word.length() + 1));
            faultOn(six, word, NONE);
            faultOn(six, word + "; " + word, word.length() + 2);
            faultOn(seven, word, 0);
            faultOn(seven, " calm;" + word + " 1", 6);
            faultOn(seven, "land;" + times(7, word), NONE);
        }
        faultOn(seven, "cart 6 0", NONE);
        faultOn(seven, "cart 7 0", 5);
    }

    /** "ROADS .. 9 at most"; "a tenth .. cannot stand there (at its word)". */
    private static void nineRoads() {
        for (String word : WORDS_OF_ROADS) {
            SnowCourse eight = Check.told("city;city;" + times(8, "road 0 1 1"));
            faultOn(eight, word + " 0 1 1", NONE);
            faultOn(eight, word + " 0 1 1;" + word + " 0 1 1", word.length() + 7);
            SnowCourse nine = Check.told("city;city;" + times(9, "shaded 0 1 1"));
            faultOn(nine, word + " 0 1 1", 0);
            faultOn(nine, "calm; " + word, 6);
            faultOn(nine, "land;city;city;" + times(9, word + " 0 1 1"), NONE);
        }
    }

    /** "CARTS .. 4 at most"; "a fifth cannot stand there (at its word)". */
    private static void fourCarts() {
        SnowCourse three = Check.told("city;" + times(3, "cart 0 0"));
        SnowCourse four = Check.told("city;cart 0 0;old 0 0;stamped 0 0;cart 0 0");
        for (String word : WORDS_OF_CARTS) {
            faultOf("city;" + times(4, word + " 0 0"), NONE);
            faultOf("city;" + times(5, word + " 0 0"), 5 + 4 * (word.length() + 5));
            faultOn(three, word + " 0 0", NONE);
            faultOn(three, word + " 0 0;" + word + " 0 0", word.length() + 5);
            faultOn(four, word + " 0 0", 0);
            faultOn(four, "city;" + word, 5);
            faultOn(four, "land;city;" + times(4, word + " 0 0"), NONE);
        }
    }

    /** "road A B H": places such as there are, "not alike (else a FAULT at B)", "HOURS (1 .. 6)". */
    private static void numbersOfRoads() {
        for (String word : WORDS_OF_ROADS) {
            int at = 15 + word.length() + 1;
            for (int n = 0; n <= 99; n++) {
                int a = n > 2 ? at : n == 1 ? at + 2 : NONE;
                faultOf("city;city;city;" + word + " " + n + " 1 1", a);
                faultOf("city;city;city;" + word + " 0 " + n + " 1", n == 0 || n > 2 ? at + 2 : NONE);
                faultOf("city;city;city;" + word + " 2 " + n + " 1", n > 1 ? at + 2 : NONE);
                faultOf("city;city;city;" + word + " 0 1 " + n, n < 1 || n > 6 ? at + 4 : NONE);
            }
        }
        faultOf("city;city;road 1 01 1", 17);
        faultOf("city;city;road 01 1 1", 18);
    }

    /** "cart P S": a place such as there is, "STRAW (0 .. 3)". */
    private static void numbersOfCarts() {
        for (String word : WORDS_OF_CARTS) {
            int at = 10 + word.length() + 1;
            for (int n = 0; n <= 99; n++) {
                faultOf("city;city;" + word + " " + n + " 0", n > 1 ? at : NONE);
                faultOf("city;city;" + word + " 1 " + n, n > 3 ? at + 2 : NONE);
            }
        }
        faultOf("cart 0 0", 5);
    }

    /** "warm: HOUR H (0 .. 47)". */
    private static void numbersOfWarm() {
        for (int n = 0; n <= 99; n++) {
            faultOf("calm;warm " + n, n > 47 ? 10 : NONE);
        }
        SnowCourse x = Check.told("warm 0;warm 47");
        Check.due("count(3): the first and the last", x.count(3), 2);
        for (int from = 0; from < 48; from += 14) {
            StringBuilder text = new StringBuilder("calm");
            for (int hour = from; hour < Math.min(48, from + 13); hour++) {
                text.append(";warm ").append(hour);
            }
            Check.tell(x, text.toString());
            Check.due("count(3) from " + from, x.count(3), Math.min(48, from + 13) - from);
        }
    }

    /** "numbers of 1 or 2 digits"; "of more digits, also". */
    private static void digits() {
        for (int n = 0; n <= 9; n++) {
            faultOf("warm " + n, NONE);
            faultOf("warm 0" + n, NONE);
            faultOf("warm 00" + n, 5);
            faultOf("warm 000" + n, 5);
        }
        faultOf("warm 111", 5);
        faultOf("warm 4294967297", 5);
        faultOf("warm 18446744073709551616", 5);
        faultOf("city;city;road 000 1 1", 15);
        faultOf("city;city;road 0 001 1", 17);
        faultOf("city;city;road 0 1 001", 19);
        faultOf("city;city;cart 000 1", 15);
        faultOf("city;city;cart 0 001", 17);
        faultOf("city;city;cart 01 03", NONE);
    }

    /** "PLACES such as there are behind the CLAUSES ahead". */
    private static void placesOfClausesAhead() {
        faultOf("road 0 1 1;city;city", 5);
        faultOf("city;road 0 1 1;city", 12);
        faultOf("city;road 1 0 1;city", 10);
        faultOf("city;city;road 0 1 1", NONE);
        faultOf("cart 0 0;city", 5);
        faultOf("city;cart 1 0;city", 10);
        faultOf("city;cart 0 0", NONE);
        SnowCourse x = Check.told("city;city");
        faultOn(x, "road 0 1 1;cart 1 0", NONE);
        faultOn(x, "road 0 2 1", 7);
        faultOn(x, "city;road 0 2 1", NONE);
        faultOn(x, "land;road 0 1 1", 10);
        faultOn(x, "land;city;cart 1 0", 15);
        faultOn(x, "cart 1 0;land;city;cart 0 0", NONE);
    }

    /** "A FAULT is at the first TOKEN ..": of two faults the first, and what is behind it does not matter. */
    private static void firstOfTwoFaults() {
        faultOf("x;y", 0);
        faultOf("city;cart 9 9", 10);
        faultOf("city;cart 0 9;x", 12);
        faultOf("city;city;road 5 5 9", 15);
        faultOf("city;city;road 1 1 9", 17);
        faultOf("warm 99;warm 99", 5);
        faultOf(times(7, "city") + ";city;x", 35);
        faultOf("calm x;calm", 5);
        faultOf("calm;x;" + times(14, "calm"), 5);
    }

    // ---- promise 5

    /** "CLAUSES are done in their order." */
    private static void clausesInTheirOrder() {
        Check.due("warm, then calm", Check.told("warm 3;warm 4;calm").count(3), 0);
        Check.due("calm, then warm", Check.told("calm;warm 3;warm 4").count(3), 2);
        Check.due("warm, calm, warm", Check.told("warm 3;calm;warm 4;warm 4").count(3), 1);
        Check.due("city, land, mountain", Check.told("city;land;mountain").place(0, 0), 1);
        SnowCourse x = Check.told("city;crossing;cellar;mountain;bandits 3 0 6;road 0 1 2;shaded 2 1 3;old 3 1;cart 0 2");
        int[] kinds = {3, 0, 2, 1};
        for (int place = 0; place < 4; place++) {
            Check.due("kind of place " + place, x.place(place, 0), kinds[place]);
        }
        int[][] roads = {{2, 3, 0, 6}, {0, 0, 1, 2}, {1, 2, 1, 3}};
        int[][] carts = {{1, 1, 3, 0, 0}, {0, 2, 0, 0, 0}};
        for (int what = 0; what < 4; what++) {
            for (int road = 0; road < 3; road++) {
                Check.due("road(" + road + ", " + what + ")", x.road(road, what), roads[road][what]);
            }
        }
        for (int what = 0; what < 5; what++) {
            for (int cart = 0; cart < 2; cart++) {
                Check.due("cart(" + cart + ", " + what + ")", x.cart(cart, what), carts[cart][what]);
            }
        }
        Check.tell(x, "cellar;stamped 4 3;road 4 3 1");
        Check.due("a fifth place", x.place(4, 0), 2);
        Check.due("a third cart in it", x.place(4, 3), 4);
        Check.due("a fourth road at it", x.place(4, 2), 8);
        Check.due("the first place is as it was", x.place(0, 2), 3);
    }

    /** "land: all as at first". */
    private static void landIsAllAsAtFirst() {
        Twins at = new Twins("land behind all", x -> {
            Check.tell(x, Worlds.BUSY);
            x.fill(0, 60);
            x.keep(0);
            x.taker(3);
            x.put(20);
            Check.tell(x, "land");
        });
        for (int what = 0; what <= 10; what++) {
            int asked = what;
            at.answers("count(" + what + ")", x -> x.count(asked), 0);
        }
        at.answers("place(0, 0)", x -> x.place(0, 0), UNKNOWN);
        at.answers("road(0, 0)", x -> x.road(0, 0), UNKNOWN);
        at.answers("cart(0, 0)", x -> x.cart(0, 0), UNKNOWN);
        at.answers("back(0)", x -> x.back(0), NOT);
        at.answers("undo()", x -> x.undo(), NOT);
        // Nothing of what was told ahead of land comes again by what is told behind it.
        SnowCourse x = Check.told("mountain;cellar;city;road 0 1 1;road 2 0 1;cart 0 0;old 2 1;warm 3;land;city;crossing;mountain");
        Check.due("place(2, 0)", x.place(2, 0), 1);
        Check.due("place(0, 2)", x.place(0, 2), 0);
        Check.due("place(0, 3)", x.place(0, 3), 0);
        Check.due("count(3)", x.count(3), 0);
        Check.tell(x, "road 0 1 1;cart 2 0");
        Check.due("place(0, 2)", x.place(0, 2), 1);
        Check.due("place(2, 2)", x.place(2, 2), 0);
        Check.due("place(2, 3)", x.place(2, 3), 1);
        Check.due("place(0, 3)", x.place(0, 3), 0);
    }

    /** "THE TEXT's CLAUSES are done, and it is empty then: how many there were". */
    private static void landCounts() {
        for (int n = 1; n <= 14; n++) {
            SnowCourse x = new SnowCourse();
            Check.write(x, times(n, "land"));
            Check.due("land() of " + n, x.land(), n);
            Check.due("count(10) behind land()", x.count(10), 0);
            Check.due("erase() behind land()", x.erase(), 0);
            Check.due("land() again", x.land(), NOT);
        }
        SnowCourse y = Check.told(times(7, "city"));
        Check.due("count(0)", y.count(0), 7);
        Check.due("land() of nothing", y.land(), NOT);
        Check.due("count(0): a text is done once", y.count(0), 7);
    }

    /** "NOT: it has a FAULT"; "Refused, and nothing changes". */
    private static void landRefused() {
        Worlds.busy().unchanged("land() with a fault", x -> x.land(), NOT);
        Worlds.fresh().unchanged("land() of nothing", x -> x.land(), NOT);
        String[] faults = {"land;x", "land;", "calm;warm 48", times(15, "land"), "land;city;city;road 0 1 1;road 0 0 1",
            times(8, "city"), " "};
        for (String text : faults) {
            Twins at = new Twins("'" + text + "'", x -> {
                Check.tell(x, Worlds.BUSY);
                x.fill(0, 30);
                x.taker(4);
                x.put(8);
                x.keep(0);
                Check.write(x, text);
            });
            at.unchanged("land()", x -> x.land(), NOT);
            at.unchanged("fault()", x -> x.fault() == NONE ? 1 : 0, 0);
        }
        Twins well = new Twins("a text without a fault", x -> {
            Check.tell(x, Worlds.BUSY);
            x.fill(0, 30);
            Check.write(x, "land;city;warm 4");
        });
        well.unchanged("fault() does no clause", x -> x.fault(), NONE);
    }

    /** "Behind them it is HOUR 0 for each CART, in its first PLACE, without SNOW; .. nothing is kept or can be undone." */
    private static void behindAText() {
        SnowCourse x = Worlds.busy().fresh();
        x.keep(0);
        x.erase();
        Check.tell(x, "calm");
        int[] first = {0, 0, 1};
        for (int cart = 0; cart < 3; cart++) {
            Check.due("place of cart " + cart, x.cart(cart, 2), first[cart]);
            Check.due("hour of cart " + cart, x.cart(cart, 3), 0);
            Check.due("snow of cart " + cart, x.cart(cart, 4), 0);
        }
        Check.due("stock", x.place(1, 1), 0);
        Check.due("carts in place 0", x.place(0, 3), 3);
        Check.due("carts in place 2", x.place(2, 3), 0);
        for (int what = 4; what <= 10; what++) {
            Check.due("count(" + what + ")", x.count(what), 0);
        }
        Check.due("undo()", x.undo(), NOT);
        Check.due("back(0)", x.back(0), NOT);
        Check.due("back(1)", x.back(1), NOT);
        Check.due("dismiss()", x.dismiss(), 0);
        Check.due("wipe()", x.wipe(), 0);
        Check.due("left(9, 9, 0)", x.left(9, 9, 0), 1);
        Check.due("pass(0, 0)", x.pass(0, 0), NONE);
        // What is kept behind the text is there.
        x.keep(1);
        Check.due("back(1)", x.back(1), 1);
        Check.due("back(0)", x.back(0), NOT);
    }

    // ---- promises 6 to 8

    /** "Of a PLACE: KIND (what 0), STOCK (1), ROADS, by bits (2), CARTS in it, by bits (3). UNKNOWN; OUTSIDE." */
    private static void place() {
        Twins at = Worlds.full();
        int[] unknown = {MIN, -1, 7, MAX};
        int[] outside = {MIN, -1, 4, MAX};
        for (int place : unknown) {
            at.unchanged("place(" + place + ", 0)", x -> x.place(place, 0), UNKNOWN);
            at.unchanged("place(" + place + ", 3)", x -> x.place(place, 3), UNKNOWN);
            at.answers("place(" + place + ", 4)", x -> x.place(place, 4), UNKNOWN);
            at.answers("place(" + place + ", -1)", x -> x.place(place, -1), UNKNOWN);
        }
        for (int what : outside) {
            at.unchanged("place(0, " + what + ")", x -> x.place(0, what), OUTSIDE);
            at.unchanged("place(6, " + what + ")", x -> x.place(6, what), OUTSIDE);
        }
        int[][] due = {{1, 0, 193, 1}, {2, 0, 3, 2}, {3, 0, 6, 0}, {0, 0, 12, 0}, {0, 0, 24, 0}, {3, 0, 304, 0},
            {1, 0, 480, 12}};
        for (int place = 0; place < 7; place++) {
            for (int what = 0; what < 4; what++) {
                int p = place;
                int w = what;
                at.answers("place(" + p + ", " + w + ")", x -> x.place(p, w), due[p][w]);
            }
        }
        SnowCourse x = Check.told("city;city;" + times(9, "road 0 1 1"));
        Check.tell(x, times(4, "cart 1 0"));
        Check.due("nine roads", x.place(0, 2), 511);
        Check.due("nine roads", x.place(1, 2), 511);
        Check.due("no carts", x.place(0, 3), 0);
        Check.due("four carts", x.place(1, 3), 15);
        Check.due("the last of six, a seventh is not", Check.told(times(6, "city")).place(5, 0), 3);
        Check.due("a seventh of six", Check.told(times(6, "city")).place(6, 0), UNKNOWN);
    }

    /** "Of a ROAD: KIND (what 0), A (1), B (2), HOURS (3). UNKNOWN; OUTSIDE." */
    private static void road() {
        Twins at = Worlds.full();
        int[] unknown = {MIN, -1, 9, MAX};
        int[] outside = {MIN, -1, 4, MAX};
        for (int road : unknown) {
            at.unchanged("road(" + road + ", 0)", x -> x.road(road, 0), UNKNOWN);
            at.unchanged("road(" + road + ", 3)", x -> x.road(road, 3), UNKNOWN);
            at.answers("road(" + road + ", 4)", x -> x.road(road, 4), UNKNOWN);
            at.answers("road(" + road + ", -1)", x -> x.road(road, -1), UNKNOWN);
        }
        for (int what : outside) {
            at.unchanged("road(0, " + what + ")", x -> x.road(0, what), OUTSIDE);
            at.unchanged("road(8, " + what + ")", x -> x.road(8, what), OUTSIDE);
        }
        int[] first = {0, 0, 1, 1};
        int[] last = {2, 5, 6, 6};
        for (int what = 0; what < 4; what++) {
            int w = what;
            at.answers("road(0, " + w + ")", x -> x.road(0, w), first[w]);
            at.answers("road(8, " + w + ")", x -> x.road(8, w), last[w]);
        }
        at.answers("road(6, 0)", x -> x.road(6, 0), 1);
        Check.due("a ninth of eight", Check.told("city;city;" + times(8, "road 0 1 1")).road(8, 0), UNKNOWN);
    }

    /** "Of a CART: KIND (what 0), STRAW (1), PLACE (2), HOUR (3), SNOW (4). UNKNOWN; OUTSIDE." */
    private static void cart() {
        Twins at = Worlds.full();
        int[] unknown = {MIN, -1, 4, MAX};
        int[] outside = {MIN, -1, 5, MAX};
        for (int cart : unknown) {
            at.unchanged("cart(" + cart + ", 0)", x -> x.cart(cart, 0), UNKNOWN);
            at.unchanged("cart(" + cart + ", 4)", x -> x.cart(cart, 4), UNKNOWN);
            at.answers("cart(" + cart + ", 5)", x -> x.cart(cart, 5), UNKNOWN);
            at.answers("cart(" + cart + ", -1)", x -> x.cart(cart, -1), UNKNOWN);
        }
        for (int what : outside) {
            at.unchanged("cart(0, " + what + ")", x -> x.cart(0, what), OUTSIDE);
            at.unchanged("cart(3, " + what + ")", x -> x.cart(3, what), OUTSIDE);
        }
        SnowCourse x = at.fresh();
        x.fill(3, 99);
        int[][] due = {{0, 0, 0, 0, 0}, {1, 1, 1, 0, 0}, {2, 2, 6, 0, 0}, {0, 3, 6, 0, 99}};
        for (int cart = 0; cart < 4; cart++) {
            for (int what = 0; what < 5; what++) {
                Check.due("cart(" + cart + ", " + what + ")", x.cart(cart, what), due[cart][what]);
            }
        }
        x.rest(3, 48);
        Check.due("cart(3, 3) at the last", x.cart(3, 3), 48);
        Check.due("a fourth of three", Check.told("city;" + times(3, "cart 0 0")).cart(3, 0), UNKNOWN);
    }

    // ---- promises 9 to 11

    /** "A CART taken as a KIND (0 .. 3, as they are over one another) .. UNKNOWN; OUTSIDE; NOT: it is none such." */
    private static void as() {
        Twins at = Worlds.full();
        int[] unknown = {MIN, -1, 4, MAX};
        int[] outside = {MIN, -1, 4, MAX};
        for (int cart : unknown) {
            at.unchanged("as(" + cart + ", 0)", x -> x.as(cart, 0), UNKNOWN);
            at.answers("as(" + cart + ", 3)", x -> x.as(cart, 3), UNKNOWN);
            at.answers("as(" + cart + ", 4)", x -> x.as(cart, 4), UNKNOWN);
        }
        for (int kind : outside) {
            for (int cart = 0; cart < 4; cart++) {
                int c = cart;
                at.unchanged("as(" + c + ", " + kind + ")", x -> x.as(c, kind), OUTSIDE);
            }
        }
        // Plain, old, stamped, plain: each is a load, plain, and what it is told as.
        int[] most = {1, 2, 3, 1};
        for (int cart = 0; cart < 4; cart++) {
            for (int kind = 0; kind <= 3; kind++) {
                int c = cart;
                int k = kind;
                at.unchanged("as(" + c + ", " + k + ")", x -> x.as(c, k), k <= most[c] ? 0 : NOT);
            }
        }
    }

    private static int lossAt(String carts, int hour, int cart, int pounds) {
        SnowCourse x = Check.told("mountain;" + carts);
        if (hour > 0) {
            x.rest(cart, hour);
        }
        if (pounds > 0) {
            x.fill(cart, pounds);
        }
        return x.as(cart, 0);
    }

    /** "SNOW of w pounds, above 0, loses: ROOT of w, and 1, PLAIN; .. twice as much in HOURS 10 .. 15 of a day .. w at most". */
    private static void asInItsHour() {
        int[] hours = {0, 9, 10, 15, 16, 23, 24, 33, 34, 39, 40, 47, 48};
        int[] plain = {5, 5, 10, 10, 5, 5, 5, 5, 10, 10, 5, 5, 5};
        for (int i = 0; i < hours.length; i++) {
            Check.due("20 in hour " + hours[i], lossAt("cart 0 0", hours[i], 0, 20), plain[i]);
            Check.due("none in hour " + hours[i], lossAt("cart 0 0", hours[i], 0, 0), 0);
        }
        // A warm hour alone is warm: 2 more, and twice that at noon.
        String warm = "cart 0 0;warm 0;warm 10;warm 15;warm 23;warm 47";
        int[] inWarm = {7, 5, 14, 14, 5, 7, 5, 5, 10, 10, 5, 7, 5};
        for (int i = 0; i < hours.length; i++) {
            Check.due("20 in hour " + hours[i] + ", warm or not", lossAt(warm, hours[i], 0, 20), inWarm[i]);
        }
        // "ROOT of n is the greatest number whose square is no more than n."
        int[] pounds = {3, 4, 8, 9, 15, 16, 24, 25, 35, 36, 48, 49, 63, 64, 80, 81, 99};
        int[] loss = {2, 3, 3, 4, 4, 5, 5, 6, 6, 7, 7, 8, 8, 9, 9, 10, 10};
        for (int i = 0; i < pounds.length; i++) {
            Check.due(pounds[i] + ", plain", lossAt("cart 0 0", 0, 0, pounds[i]), loss[i]);
            Check.due(pounds[i] + ", old", lossAt("old 0 0", 0, 0, pounds[i]), loss[i] - 1);
            Check.due(pounds[i] + ", stamped", lossAt("stamped 0 0", 0, 0, pounds[i]), loss[i] - 2);
        }
        // "w at most"
        Check.due("1, plain", lossAt("cart 0 0", 0, 0, 1), 1);
        Check.due("2, plain", lossAt("cart 0 0", 0, 0, 2), 2);
        Check.due("3, plain, at noon", lossAt("cart 0 0", 10, 0, 3), 3);
        Check.due("4, plain, at noon", lossAt("cart 0 0", 10, 0, 4), 4);
        Check.due("9, plain, at noon", lossAt("cart 0 0", 10, 0, 9), 8);
        Check.due("1, stamped, warm", lossAt("stamped 0 3;warm 0", 0, 0, 1), 1);
        // "less STRAW (none below 0); 2 more in a WARM HOUR"
        Check.due("4, plain, straw 3", lossAt("cart 0 3", 0, 0, 4), 0);
        Check.due("9, plain, straw 3", lossAt("cart 0 3", 0, 0, 9), 1);
        Check.due("1, plain, straw 2", lossAt("cart 0 2", 0, 0, 1), 0);
        Check.due("1, plain, straw 1", lossAt("cart 0 1", 0, 0, 1), 1);
        Check.due("4, plain, straw 3, warm", lossAt("cart 0 3;warm 0", 0, 0, 4), 2);
        Check.due("1, plain, straw 3, warm", lossAt("cart 0 3;warm 0", 0, 0, 1), 1);
        Check.due("4, stamped, straw 3, warm noon", lossAt("stamped 0 3;warm 10", 10, 0, 9), 4);
        // "in a CELLAR nothing"
        SnowCourse x = Check.told("mountain;cellar;road 0 1 1;cart 0 0;warm 10");
        x.rest(0, 9);
        x.fill(0, 99);
        x.go(0, 0);
        Check.due("in a cellar, at warm noon", x.as(0, 1), 0);
        Check.due("in a cellar, at warm noon", x.rest(0, 1), 89);
    }

    /** "A ROAD taken as a KIND (0 .. 3): what comes by it of 50 pounds, PLAIN, without STRAW, from HOUR 0 on." */
    private static void roadAs() {
        Twins at = Worlds.full();
        int[] unknown = {MIN, -1, 9, MAX};
        int[] outside = {MIN, -1, 4, MAX};
        for (int road : unknown) {
            at.unchanged("roadAs(" + road + ", 0)", x -> x.roadAs(road, 0), UNKNOWN);
            at.answers("roadAs(" + road + ", 3)", x -> x.roadAs(road, 3), UNKNOWN);
            at.answers("roadAs(" + road + ", 4)", x -> x.roadAs(road, 4), UNKNOWN);
        }
        int[] roads = {0, 6, 7, 8};
        for (int kind : outside) {
            for (int road : roads) {
                at.unchanged("roadAs(" + road + ", " + kind + ")", x -> x.roadAs(road, kind), OUTSIDE);
            }
        }
        // 42 in an hour; in the shade 46 43 in two; by bandits 42 35 in two, less 3; in six 42 35 29 23 18 13, less 1.
        int[][] due = {{42, 42, NOT, NOT}, {43, NOT, 43, NOT}, {32, 32, NOT, 32}, {12, 12, NOT, 12}};
        for (int i = 0; i < 4; i++) {
            for (int kind = 0; kind <= 3; kind++) {
                int road = roads[i];
                int k = kind;
                at.unchanged("roadAs(" + road + ", " + k + ")", x -> x.roadAs(road, k), due[i][k]);
            }
        }
    }

    /** "PRICE in an HOUR (0 .. 48). OUTSIDE."; "4 in 0 .. 5, 3 in 6 .. 11, 5 in 12 .. 17, 2 in 18 .. 23". */
    private static void price() {
        Twins at = Worlds.busy();
        int[] outside = {MIN, -1, 49, MAX};
        for (int hour : outside) {
            at.unchanged("price(" + hour + ")", x -> x.price(hour), OUTSIDE);
        }
        int[] hours = {0, 5, 6, 11, 12, 17, 18, 23, 24, 29, 30, 35, 36, 41, 42, 47, 48};
        int[] due = {4, 4, 3, 3, 5, 5, 2, 2, 4, 4, 3, 3, 5, 5, 2, 2, 4};
        for (int i = 0; i < hours.length; i++) {
            int hour = hours[i];
            at.unchanged("price(" + hour + ")", x -> x.price(hour), due[i]);
        }
    }
}
