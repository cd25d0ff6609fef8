/** Countries and pasts that several tests begin with. */
final class Worlds {
    static final String BUSY = "mountain;cellar;city;crossing;road 0 1 1;shaded 1 2 2;bandits 0 2 3;road 2 3 1;"
            + "cart 0 0;old 0 1;stamped 1 3;warm 12";

    private Worlds() { }

    static Twins fresh() {
        return new Twins("a new object", x -> { });
    }

    static Twins of(String country) {
        return new Twins(country, x -> Check.tell(x, country));
    }

    /** Something of all: deeds, a kept standing, takers, loads, and a text with a fault. */
    static Twins busy() {
        return new Twins("a busy country", Worlds::live);
    }

    private static void live(SnowCourse x) {
        Check.tell(x, BUSY);
        x.fill(0, 60);
        x.fill(1, 50);
        x.go(0, 0);
        x.store(0);
        x.keep(1);
        x.go(1, 2);
        x.sell(1);
        x.fill(2, 1);
        x.take(2, 20);
        x.taker(3);
        x.taker(7);
        x.put(20);
        x.put(9);
        Check.write(x, "city;road 0 9");
    }

    /** As many places, roads and carts as can be. */
    static Twins full() {
        return new Twins("a full country", x -> {
            Check.tell(x, "mountain;cellar;city;crossing;crossing;city;mountain;cart 0 0;old 1 1;stamped 6 2;cart 6 3");
            Check.tell(x, "road 0 1 1;road 1 2 1;road 2 3 1;road 3 4 1;road 4 5 1;road 5 6 1;shaded 6 0 2;bandits 6 0 2");
            Check.tell(x, "bandits 5 6 6");
        });
    }
}
