import java.util.Set;
import java.util.TreeSet;

/** What a test asks of the program: answers that are due, and how many were not. */
final class Due {
    static final int NONE = DecreedStreets.NONE, UNKNOWN = DecreedStreets.UNKNOWN, OUTSIDE = DecreedStreets.OUTSIDE,
            NOT = DecreedStreets.NOT, FULL = DecreedStreets.FULL;

    /** Numbers that no bound of the document holds, and that a sum or a product could make look small. */
    static final int[] FAR_OFF = {Integer.MIN_VALUE, Integer.MIN_VALUE + 1, -1000000001, -65536, -256, 256, 65536, 1 << 30,
        Integer.MAX_VALUE - 1, Integer.MAX_VALUE};

    private static int asked = 0;
    private static int wrong = 0;
    private static String sentence = "";
    private static String section = "";
    /** Which answers were due in which section: "Promise 2 -1000000004". */
    private static final Set<String> seen = new TreeSet<>();

    private Due() {
    }

    /** All that is asked from here on is asked for this sentence; the document has to have it there. */
    static void saying(String where, String words) {
        section = where;
        sentence = "[" + where + ": \"" + words + "\"] ";
        is("the document says so", Document.says(where, words) ? 1 : 0, 1);
    }

    static void is(String call, long got, long want) {
        asked++;
        if (!section.isEmpty()) {
            seen.add(section + " " + want);
        }
        if (got != want) {
            wrong++;
            System.out.println(sentence + call + " answered " + got + ", due is " + want);
        }
    }

    static boolean wasAsked(String where, long want) {
        return seen.contains(where + " " + want);
    }

    static void feedAll(DecreedStreets x, String text) {
        for (int i = 0; i < text.length(); i++) {
            int count = x.feed(text.charAt(i));
            if (count < 0) {
                is("feed of letter " + i + " of '" + text + "'", count, i + 1);
            }
        }
    }

    /** A new object with this city; its text has to be without a fault. */
    static DecreedStreets of(String text) {
        DecreedStreets x = new DecreedStreets();
        feedAll(x, text);
        int corners = x.city();
        if (corners < 0) {
            is("city() of '" + text + "'", corners, 0);
        }
        return x;
    }

    static void end() {
        System.out.println(asked + " asked, " + wrong + " wrong");
        if (wrong != 0) {
            System.exit(1);
        }
    }
}
