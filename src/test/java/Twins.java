import java.util.ArrayList;
import java.util.List;

/**
 * Objects with one and the same past. A call that must change nothing is made on one of them; then all that can be
 * asked is asked of it and of another one on which the call was not made.
 */
final class Twins {
    interface Past {
        void of(SnowCourse x);
    }

    interface Call {
        long on(SnowCourse x);
    }

    private final String name;
    private final Past past;

    Twins(String name, Past past) {
        this.name = name;
        this.past = past;
    }

    SnowCourse fresh() {
        SnowCourse x = new SnowCourse();
        past.of(x);
        return x;
    }

    /** The call is answered so on a fresh object, which is given back as it is behind the call. */
    SnowCourse answers(String what, Call call, long want) {
        SnowCourse x = fresh();
        Check.due(name + ": " + what, call.on(x), want);
        return x;
    }

    /** As answers(), and nothing has changed by it. */
    void unchanged(String what, Call call, long want) {
        List<String> got = looks(answers(what, call, want));
        List<String> due = looks(fresh());
        for (int i = 0; i < Math.min(got.size(), due.size()); i++) {
            if (!got.get(i).equals(due.get(i))) {
                Check.due(name + ": behind " + what + " it is '" + got.get(i) + "' instead of '" + due.get(i) + "'", 1, 0);
                return;
            }
        }
        Check.due(name + ": looks behind " + what, got.size(), due.size());
    }

    /** All that can be asked; at last the object is undone, taken back and emptied. */
    private static List<String> looks(SnowCourse x) {
        List<String> seen = new ArrayList<>();
        told(x, seen);
        deeds(x, seen, "now");
        takersAndRow(x, seen);
        // An object is used for at most 512 calls, so a standing is looked at only where there is one.
        boolean more = true;
        for (int i = 0; i < 9 && more; i++) {
            int undone = x.undo();
            note(seen, "undo " + i, undone);
            more = undone != SnowCourse.NOT;
            if (more) {
                deeds(x, seen, "undone " + i);
            }
        }
        for (int k = 1; k >= 0; k--) {
            int back = x.back(k);
            note(seen, "back " + k, back);
            if (back != SnowCourse.NOT) {
                deeds(x, seen, "back " + k);
            }
        }
        note(seen, "dismiss", x.dismiss());
        note(seen, "wipe", x.wipe());
        note(seen, "erase", x.erase());
        return seen;
    }

    private static void told(SnowCourse x, List<String> seen) {
        for (int what = 0; what <= 10; what++) {
            note(seen, "count " + what, x.count(what));
        }
        int places = x.count(0);
        int roads = x.count(1);
        int carts = x.count(2);
        for (int place = 0; place < places; place++) {
            note(seen, "kind of place " + place, x.place(place, 0));
            note(seen, "roads of place " + place, x.place(place, 2));
        }
        for (int road = 0; road < roads; road++) {
            note(seen, "kind of road " + road, x.road(road, 0));
            note(seen, "what comes by road " + road, x.roadAs(road, 0));
        }
        for (int cart = 0; cart < carts; cart++) {
            note(seen, "kind of cart " + cart, x.cart(cart, 0));
            note(seen, "straw of cart " + cart, x.cart(cart, 1));
        }
        note(seen, "fault", x.fault());
    }

    private static void deeds(SnowCourse x, List<String> seen, String when) {
        int places = x.count(0);
        int carts = x.count(2);
        for (int place = 0; place < places; place++) {
            note(seen, when + ": stock of place " + place, x.place(place, 1));
        }
        for (int cart = 0; cart < carts; cart++) {
            for (int what = 2; what <= 4; what++) {
                note(seen, when + ": cart " + cart + ", " + what, x.cart(cart, what));
            }
        }
        note(seen, when + ": got", x.count(4));
        note(seen, when + ": can be undone", x.count(9));
    }

    private static void takersAndRow(SnowCourse x, List<String> seen) {
        for (int n = 1; n <= 30; n++) {
            note(seen, "takers of " + n, x.left(900, 900 - 30 - n, 1));
        }
        int loads = x.count(8);
        for (int k = -1; k < loads; k++) {
            note(seen, "pass " + k, x.pass(5, k));
        }
    }

    private static void note(List<String> seen, String what, long answer) {
        seen.add(what + " " + answer);
    }
}
