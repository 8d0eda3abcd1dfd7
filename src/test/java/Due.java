/** What a test asks of the program: answers that are due, and how many were not. */
final class Due {
    static final int NONE = DecreedStreets.NONE, UNKNOWN = DecreedStreets.UNKNOWN, OUTSIDE = DecreedStreets.OUTSIDE,
            NOT = DecreedStreets.NOT, FULL = DecreedStreets.FULL;

    private static int asked = 0;
    private static int wrong = 0;

    private Due() {
    }

    static void is(String call, long got, long want) {
        asked++;
        if (got != want) {
            wrong++;
            System.out.println(call + " answered " + got + ", due is " + want);
        }
    }

    static void feedAll(DecreedStreets x, String text) {
        for (int i = 0; i < text.length(); i++) {
            int count = x.feed(text.charAt(i));
            if (count < 0) {
                is("feed of letter " + i + " of '" + text + "'", count, i + 1);
            }
        }
    }

    /** A new object with this city; its text has to be without a fault. */
    static DecreedStreets of(String text) {
        DecreedStreets x = new DecreedStreets();
        feedAll(x, text);
        int corners = x.city();
        if (corners < 0) {
            is("city() of '" + text + "'", corners, 0);
        }
        return x;
    }

    static void end() {
        System.out.println(asked + " asked, " + wrong + " wrong");
        if (wrong != 0) {
            System.exit(1);
        }
    }
}
