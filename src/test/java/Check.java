/** What the tests share: comparing, expecting exceptions, and laying texts on the tape. */
public final class Check {
    private static int asked = 0;
    private static int wrong = 0;

    private Check() {
    }

    public static void same(String what, long got, long due) {
        asked++;
        if (got != due) {
            wrong++;
            System.out.println(what + " answered " + got + ", due is " + due);
        }
    }

    public static void same(String what, boolean got, boolean due) {
        same(what, got ? 1 : 0, due ? 1 : 0);
    }

    public static void fails(String what, Class<? extends RuntimeException> due, Runnable call) {
        asked++;
        String got = "nothing";
        try {
            call.run();
        } catch (RuntimeException e) {
            got = e.getClass().getSimpleName();
        }
        if (!got.equals(due.getSimpleName())) {
            wrong++;
            System.out.println(what + " threw " + got + ", due is " + due.getSimpleName());
        }
    }

    /** Lays the text on the tape, filled up with bytes 0 to a multiple of twenty; false if the tape is full. */
    static boolean lay(ReplayHouse house, String text) {
        for (int from = 0; from < text.length(); from += 20) {
            int[] numbers = new int[5];
            for (int i = 0; i < 20; i++) {
                int value = from + i < text.length() ? text.charAt(from + i) & 255 : 0;
                numbers[i / 4] = numbers[i / 4] << 8 | value;
            }
            if (house.feed(numbers[0], numbers[1], numbers[2], numbers[3], numbers[4]) == ReplayHouse.NONE) {
                return false;
            }
        }
        return true;
    }

    static int tell(ReplayHouse house, int version, int kind, String text) {
        lay(house, text);
        return house.text(version, kind, text.length());
    }

    /** Tells a text that must be one. */
    static void set(ReplayHouse house, int version, int kind, String text) {
        same("'" + text + "' is a text", tell(house, version, kind, text) >= 0, true);
    }

    /** Both versions get the same text for a kind. */
    static void tellBoth(ReplayHouse house, int kind, String text) {
        set(house, 0, kind, text);
        set(house, 1, kind, text);
    }

    /** The text, told to a new object, has so many S. */
    static void stands(String text, int steps) {
        same("'" + text + "'", tell(new ReplayHouse(), 0, 0, text), steps);
    }

    /** The text, told to a new object, is none, and this is its PLACE. */
    static void none(String text, int place) {
        same("'" + text + "'", tell(new ReplayHouse(), 0, 0, text), -2 - place);
    }

    /** What an E comes to for an ask with these numbers. */
    static int worked(String e, int a, int b) {
        ReplayHouse house = new ReplayHouse();
        same(e, tell(house, 1, 3, "say " + e + ";"), 1);
        house.ask(3, a, b, 0);
        return house.field(1, 0, 0);
    }

    static void close(String name) {
        System.out.println(name + ": " + asked + " answers looked at, " + wrong + " not as due");
        if (wrong != 0) {
            System.exit(1);
        }
    }
}
