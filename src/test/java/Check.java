/** What the tests of the project share: telling countries, and counting wrong answers. */
final class Check {
    private static int right = 0;
    private static int wrong = 0;

    private Check() { }

    static void due(String call, long got, long want) {
        if (got == want) {
            right++;
            return;
        }
        wrong++;
        System.out.println(call + " answered " + got + ", due is " + want);
    }

    static void write(SnowCourse x, String text) {
        for (int i = 0; i < text.length(); i++) {
            x.write(text.charAt(i));
        }
    }

    /** The text on top of what is there, which must have no fault. */
    static void tell(SnowCourse x, String text) {
        write(x, text);
        due("fault() of " + text, x.fault(), SnowCourse.NONE);
        due("land() of " + text, x.land(), text.split(";").length);
    }

    static SnowCourse told(String text) {
        SnowCourse x = new SnowCourse();
        tell(x, text);
        return x;
    }

    static void end() {
        System.out.println(right + " answers are as due, " + wrong + " are not");
        if (wrong != 0 || right == 0) {
            System.exit(1);
        }
    }
}
