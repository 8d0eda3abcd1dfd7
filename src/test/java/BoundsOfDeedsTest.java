/** The boundary cases that promises 1 to 15 name: every refusal, every bound on both of its sides, every NONE. */
public final class BoundsOfDeedsTest {
    public static void main(String[] args) {
        aNewObject();
        feed();
        cityLeavesNothing();
        citiesInARow();
        cityKeepsTheSeed();
        cityWithAFault();
        theTextIsEmptyThen();
        fault();
        told();
        toldWithoutCorners();
        far();
        street();
        streetsThatThereAreNot();
        cart();
        cartWhereItIs();
        cartSince();
        cartTrip();
        next();
        foremost();
        minute();
        minuteWithoutCorners();
        minutesAboveNinetyThousand();
        drift();
        driftWithoutCorners();
        driftsAboveNinetyThousand();
        turn();
        turnWithSomebodyOnIt();
        law();
        rank();
        Cover.promises(1, 15);
        Due.end();
    }

    private static void aNewObject() {
        Due.saying("Promise 1", "`DecreedStreets()`: No CORNERS.");
        DecreedStreets x = new DecreedStreets();
        Due.is("told(0)", x.told(0), 0);
        Due.is("far(0, 0)", x.far(0, 0), Due.UNKNOWN);
        Due.is("street(0, 0)", x.street(0, 0), Due.UNKNOWN);
        Due.is("cart(0, 0)", x.cart(0, 0), Due.UNKNOWN);
        Due.is("minute(1)", x.minute(1), Due.NOT);
        Due.is("allHome(300, 0)", x.allHome(300, 0), 0);
        Due.is("lost()", x.lost(), 0);
        Due.is("bestLaw(1, -1)", x.bestLaw(1, -1), 0);
        Due.is("decree(1)", x.decree(1), Due.NONE);
        Due.is("judge()", x.judge(), Due.NONE);
        Due.is("goBack(1)", x.goBack(1), Due.NOT);
    }

    private static void feed() {
        Due.saying("Promise 2", "One letter (a number 0 .. 255) comes behind THE TEXT: how many it has. OUTSIDE, FULL (250).");
        DecreedStreets x = new DecreedStreets();
        Due.is("feed(-1)", x.feed(-1), Due.OUTSIDE);
        Due.is("feed(256)", x.feed(256), Due.OUTSIDE);
        for (int far : Due.FAR_OFF) {
            Due.is("feed(" + far + ")", x.feed(far), Due.OUTSIDE);
        }
        Due.is("feed(0)", x.feed(0), 1);
        Due.is("feed(255)", x.feed(255), 2);
        for (int i = 3; i <= 250; i++) {
            Due.is("letter " + i, x.feed(i), i);
        }
        Due.is("letter 251", x.feed(0), Due.FULL);
        Due.is("letter 251 again", x.feed(255), Due.FULL);
        Due.is("told(4)", x.told(4), 250);
        Due.is("city()", x.city(), -11);
        Due.is("the first of the next text", x.feed('c'), 1);
    }

    private static void cityLeavesNothing() {
        Due.saying("Promise 3", "becomes THE CITY (minute 0; no RUTS, no RECORD; IMAGES are gone; THE SEED stays): how many CORNERS");
        DecreedStreets x = Due.of("c7 5;s0 1 2 0;s1 2 2 0;k0 1 0 1 9;k2 0 0 1 9;");
        x.minute(3);
        x.turn(1);
        x.rut(0, 3, 1);
        x.write(0, 2);
        x.keep(0);
        x.keep(1);
        Due.feedAll(x, "c2 60;s0 1 4 4;k0 1 1 1 9;");
        Due.is("city()", x.city(), 2);
        Due.is("fault()", x.fault(), Due.NONE);
        int[] told = {2, 1, 1, 60, 0, 0, 0, 0, 0, 0, 0, 0};
        for (int what = 0; what < 12; what++) {
            Due.is("told(" + what + ")", x.told(what), told[what]);
        }
        Due.is("goBack(0)", x.goBack(0), Due.NOT);
        Due.is("goBack(1)", x.goBack(1), Due.NOT);
        Due.is("street(0, 5)", x.street(0, 5), 0);
        Due.is("street(1, 0)", x.street(1, 0), Due.UNKNOWN);
        Due.is("cart(0, 5)", x.cart(0, 5), 0);
        Due.is("far(0, 2)", x.far(0, 2), Due.UNKNOWN);
        Due.is("foremost(0, 0)", x.foremost(0, 0), Due.NONE);
        Due.is("minute(6)", x.minute(6), 1);
    }

    /** What the city ahead of the latest one had must not come again either. */
    private static void citiesInARow() {
        Due.saying("Promise 3", "becomes THE CITY (minute 0; no RUTS, no RECORD; IMAGES are gone; THE SEED stays): how many CORNERS");
        DecreedStreets x = Due.of("c7 60;" + "s0 1 9 4;".repeat(9) + "k0 1 0 9 99;k1 0 0 9 99;k0 1 0 9 99;");
        x.minute(1);
        for (int s = 1; s < 9; s++) {
            x.turn(s);
        }
        Due.feedAll(x, "c3 60;s0 1 1 4;s2 1 1 4;k1 0 0 9 99;k0 1 0 9 99;k0 1 0 9 99;");
        Due.is("city()", x.city(), 3);
        for (int s = 0; s < 2; s++) {
            Due.is("street(" + s + ", 4)", x.street(s, 4), 0);
            Due.is("street(" + s + ", 5)", x.street(s, 5), 0);
            Due.is("foremost(" + s + ", 0)", x.foremost(s, 0), Due.NONE);
            Due.is("foremost(" + s + ", 1)", x.foremost(s, 1), Due.NONE);
        }
        for (int k = 0; k < 3; k++) {
            Due.is("cart(" + k + ", 8)", x.cart(k, 8), 0);
            Due.is("cart(" + k + ", 7)", x.cart(k, 7), Due.NONE);
        }
        Due.is("told(9)", x.told(9), 0);
        x.minute(1);
        x.turn(1);
        Due.is("city() of nothing", x.city(), 0);
        int[] none = {0, 0, 0, 0, 0, 0, 0, 0, 0, 0, 0, 0};
        for (int what = 0; what < 12; what++) {
            Due.is("told(" + what + ") of nothing", x.told(what), none[what]);
        }
        Due.feedAll(x, "c2 1;");
        Due.is("city() of corners alone", x.city(), 2);
        int[] alone = {2, 0, 0, 1, 0, 0, 0, 0, 0, 0, 0, 0};
        for (int what = 0; what < 12; what++) {
            Due.is("told(" + what + ") of corners alone", x.told(what), alone[what]);
        }
        Due.is("far(0, 1)", x.far(0, 1), Due.NONE);
    }

    private static void cityKeepsTheSeed() {
        Due.saying("Promise 3", "THE SEED stays");
        DecreedStreets x = new DecreedStreets();
        x.seed(2147483647);
        Due.feedAll(x, "c2 60;");
        Due.is("city()", x.city(), 2);
        Due.is("seed(8)", x.seed(8), 2147483647);
        Due.is("city() of nothing", x.city(), 0);
        Due.is("seed(9)", x.seed(9), 8);
        Due.feedAll(x, "x");
        Due.is("city() with a FAULT", x.city(), -11);
        Due.is("seed(0)", x.seed(0), 9);
    }

    private static void cityWithAFault() {
        Due.saying("Promise 3", "-10 less the number of its FAULT (all else is as it was).");
        String[] texts = {"x", "c8 1;", "c2 1;c", "c2 1;s0 0 1 0;"};
        for (int i = 0; i < texts.length; i++) {
            DecreedStreets x = Due.of("c3 5;s0 1 9 0;k0 1 0 1 9;");
            x.minute(2);
            x.rut(0, 3, 1);
            x.write(0, 9);
            x.keep(0);
            Due.feedAll(x, texts[i]);
            Due.is("city() of " + texts[i], x.city(), -11 - i);
            int[] told = {3, 1, 1, 5, 0, 2, 0, 0, 0, 0, 1, 1};
            for (int what = 0; what < 12; what++) {
                Due.is("told(" + what + ") behind " + texts[i], x.told(what), told[what]);
            }
            Due.is("street(0, 5)", x.street(0, 5), 1);
            Due.is("far(0, 2)", x.far(0, 2), Due.NONE);
            Due.is("minute(8)", x.minute(8), 1);
            Due.is("judge()", x.judge(), Due.NONE);
            Due.is("goBack(0)", x.goBack(0), 1);
            Due.is("goBack(1)", x.goBack(1), Due.NOT);
        }
    }

    private static void theTextIsEmptyThen() {
        Due.saying("Promise 3", "THE TEXT (it is empty then, with a FAULT, too) becomes THE CITY");
        String full = "c2 1;" + " ".repeat(245);
        String[] texts = {"", "  ", "c2 1;", "x", "c2 1;c", "c2 1;s0 0 1 0;", full, "x" + full.substring(1)};
        int[] due = {0, 0, 2, -11, -13, -14, 2, -11};
        for (int i = 0; i < texts.length; i++) {
            DecreedStreets x = new DecreedStreets();
            Due.feedAll(x, texts[i]);
            Due.is("told(4) ahead, '" + texts[i] + "'", x.told(4), texts[i].length());
            Due.is("city() of '" + texts[i] + "'", x.city(), due[i]);
            Due.is("told(4) behind '" + texts[i] + "'", x.told(4), 0);
            Due.feedAll(x, "c3 9;");
            Due.is("told(4) of the next text", x.told(4), 5);
            Due.is("city() of the next text alone", x.city(), 3);
            Due.is("city() again: of nothing", x.city(), 0);
        }
    }

    private static void fault() {
        Due.saying("Promise 4", "The letter of the FAULT of the latest city(); NONE.");
        DecreedStreets x = new DecreedStreets();
        Due.is("fault() ahead of any city()", x.fault(), Due.NONE);
        Due.feedAll(x, "c2 1;x");
        Due.is("fault() ahead of city()", x.fault(), Due.NONE);
        x.city();
        Due.is("fault()", x.fault(), 5);
        Due.feedAll(x, "xx");
        Due.is("fault(): the next text is none yet", x.fault(), 5);
        x.city();
        Due.is("fault() at the first letter", x.fault(), 0);
        Due.feedAll(x, "c2 1" + " ".repeat(246));
        x.city();
        Due.is("fault() behind the last letter", x.fault(), 250);
        x.city();
        Due.is("fault() of an empty text", x.fault(), Due.NONE);
        x.feed('k');
        x.city();
        Due.feedAll(x, "c2 1;");
        x.city();
        Due.is("fault() of a city", x.fault(), Due.NONE);
    }

    private static void told() {
        Due.saying("Promise 5", "10 RUTS, 11 entries of THE RECORD. OUTSIDE.");
        DecreedStreets x = Due.of("c2 9;s0 1 1 0;k0 1 0 1 9;");
        x.rut(0, 0, 0);
        x.write(0, 0);
        x.write(0, 0);
        Due.is("told(0)", x.told(0), 2);
        Due.is("told(11)", x.told(11), 2);
        Due.is("told(10)", x.told(10), 1);
        Due.is("told(-1)", x.told(-1), Due.OUTSIDE);
        Due.is("told(12)", x.told(12), Due.OUTSIDE);
        for (int far : Due.FAR_OFF) {
            Due.is("told(" + far + ")", x.told(far), Due.OUTSIDE);
        }
    }

    private static void toldWithoutCorners() {
        Due.saying("Promise 5", "3 H (0 without CORNERS)");
        DecreedStreets x = new DecreedStreets();
        Due.is("told(3) of a new object", x.told(3), 0);
        Due.feedAll(x, "c2 60;");
        x.city();
        Due.is("told(3)", x.told(3), 60);
        x.city();
        Due.is("told(3) of an empty text", x.told(3), 0);
    }

    private static void far() {
        Due.saying("Promise 6", "FAR; NONE. UNKNOWN.");
        DecreedStreets x = Due.of("c7 9;s6 5 9 4;");
        Due.is("far(5, 6)", x.far(5, 6), 9);
        Due.is("far(6, 5)", x.far(6, 5), 9);
        Due.is("far(0, 0)", x.far(0, 0), 0);
        Due.is("far(0, 6)", x.far(0, 6), Due.NONE);
        DecreedStreets y = Due.of("c7 9;s0 1 1 4;s0 2 2 4;s6 3 3 4;s6 4 4 4;");
        Due.is("far(1, 2): by the first corner", y.far(1, 2), 3);
        Due.is("far(4, 3): by the last corner", y.far(4, 3), 7);
        Due.is("far(7, 6)", x.far(7, 6), Due.UNKNOWN);
        Due.is("far(6, 7)", x.far(6, 7), Due.UNKNOWN);
        Due.is("far(7, 7)", x.far(7, 7), Due.UNKNOWN);
        Due.is("far(-1, 6)", x.far(-1, 6), Due.UNKNOWN);
        Due.is("far(6, -1)", x.far(6, -1), Due.UNKNOWN);
    }

    private static void street() {
        Due.saying("Promise 7", "Of a STREET: what = 0 A, 1 B, 2 L, 3 LAW, 4 how it GOES, 5 who is ON it (a SET of CARTS). UNKNOWN, OUTSIDE.");
        DecreedStreets x = Due.of("c7 9;s6 5 9 4;k6 5 0 1 0;");
        x.minute(1);
        int[] want = {6, 5, 9, 4, 0, 1};
        for (int what = 0; what <= 5; what++) {
            Due.is("street(0, " + what + ")", x.street(0, what), want[what]);
        }
        Due.is("street(0, -1)", x.street(0, -1), Due.OUTSIDE);
        Due.is("street(0, 6)", x.street(0, 6), Due.OUTSIDE);
        for (int far : Due.FAR_OFF) {
            Due.is("street(0, " + far + ")", x.street(0, far), Due.OUTSIDE);
            Due.is("street(" + far + ", 0)", x.street(far, 0), Due.UNKNOWN);
        }
    }

    private static void streetsThatThereAreNot() {
        Due.saying("Promise 7", "UNKNOWN, OUTSIDE.");
        DecreedStreets x = Due.of("c2 1;" + "s0 1 7 3;".repeat(9));
        Due.is("street(8, 2)", x.street(8, 2), 7);
        Due.is("street(9, 2)", x.street(9, 2), Due.UNKNOWN);
        Due.is("street(-1, 2)", x.street(-1, 2), Due.UNKNOWN);
        Due.is("street(9, 6)", x.street(9, 6), Due.UNKNOWN);
        Due.is("street(0, 0) without streets", Due.of("c2 1;").street(0, 0), Due.UNKNOWN);
    }

    private static void cart() {
        Due.saying("Promise 8", "Of a CART: what = 0 F, 1 T, 2 M, 3 RANK, 4 PATIENCE, 5 how it is (0 not STARTED, 1 WAITS, 2 ON a STREET, 3 HOME, 4 at THE INN)");
        DecreedStreets x = Due.of("c7 9;k6 5 200 9 99;" + "k0 1 0 1 0;".repeat(5));
        int[] want = {6, 5, 200, 9, 99, 0, 6, Due.NONE, 0, Due.NONE};
        for (int what = 0; what <= 9; what++) {
            Due.is("cart(0, " + what + ")", x.cart(0, what), want[what]);
        }
        Due.is("cart(5, 1)", x.cart(5, 1), 1);
        Due.saying("Promise 8", "UNKNOWN, OUTSIDE.");
        Due.is("cart(6, 0)", x.cart(6, 0), Due.UNKNOWN);
        Due.is("cart(-1, 0)", x.cart(-1, 0), Due.UNKNOWN);
        Due.is("cart(0, -1)", x.cart(0, -1), Due.OUTSIDE);
        Due.is("cart(0, 10)", x.cart(0, 10), Due.OUTSIDE);
        Due.is("cart(6, 10)", x.cart(6, 10), Due.UNKNOWN);
        for (int far : Due.FAR_OFF) {
            Due.is("cart(0, " + far + ")", x.cart(0, far), Due.OUTSIDE);
            Due.is("cart(" + far + ", 0)", x.cart(far, 0), Due.UNKNOWN);
        }
        Due.is("cart(0, 0) without carts", Due.of("c2 1;").cart(0, 0), Due.UNKNOWN);
    }

    /** Cart 0 goes by both streets, cart 1 gives up at the closed end of street 1, cart 2 starts late. */
    private static final String WHERE = "c4 9;s2 1 5 0;s2 3 2 4;k1 3 0 1 9;k3 1 0 1 0;k2 3 4 1 9;";

    private static void cartWhereItIs() {
        Due.saying("Promise 8", "6 the CORNER (the STREET) where it is (where it went to THE INN, is HOME; F ahead)");
        DecreedStreets x = Due.of(WHERE);
        Due.is("F ahead", x.cart(0, 6), 1);
        x.minute(1);
        Due.is("ON street 0", x.cart(0, 6), 0);
        Due.is("went to THE INN at corner 3", x.cart(1, 6), 3);
        Due.is("F ahead, the third", x.cart(2, 6), 2);
        x.minute(5);
        Due.is("ON street 1", x.cart(0, 6), 1);
        x.minute(2);
        Due.is("HOME at 3", x.cart(0, 6), 3);
    }

    private static void cartSince() {
        Due.saying("Promise 8", "7 since which minute (NONE: not STARTED), 8 minutes WAITED");
        DecreedStreets x = Due.of(WHERE);
        Due.is("not STARTED", x.cart(0, 7), Due.NONE);
        x.minute(1);
        Due.is("ON since 0", x.cart(0, 7), 0);
        Due.is("at THE INN since 0", x.cart(1, 7), 0);
        Due.is("WAITED one", x.cart(1, 8), 1);
        Due.is("not STARTED, the third", x.cart(2, 7), Due.NONE);
        Due.is("not STARTED: none WAITED", x.cart(2, 8), 0);
        x.minute(5);
        Due.is("ON since 5", x.cart(0, 7), 5);
        Due.is("none WAITED", x.cart(0, 8), 0);
        Due.is("ON since 4", x.cart(2, 7), 4);
        x.minute(2);
        Due.is("HOME since 7", x.cart(0, 7), 7);
        Due.is("HOME since 6", x.cart(2, 7), 6);
        x = Due.of("c2 9;s1 0 1 4;k0 1 7 1 2;");
        x.minute(9);
        Due.is("WAITS since 7", x.cart(0, 7), 7);
        Due.is("WAITED two", x.cart(0, 8), 2);
        x.minute(1);
        Due.is("at THE INN since 9", x.cart(0, 7), 9);
        Due.is("WAITED three", x.cart(0, 8), 3);
    }

    private static void cartTrip() {
        Due.saying("Promise 8", "9 TRIP (NONE: not HOME)");
        DecreedStreets x = Due.of(WHERE);
        Due.is("not STARTED", x.cart(0, 9), Due.NONE);
        x.minute(1);
        Due.is("ON", x.cart(0, 9), Due.NONE);
        Due.is("at THE INN", x.cart(1, 9), Due.NONE);
        x.minute(7);
        Due.is("HOME", x.cart(0, 9), 7);
        Due.is("HOME, from 4 on", x.cart(2, 9), 2);
        x = Due.of("c2 9;s1 0 1 4;k0 1 0 1 9;");
        x.minute(1);
        Due.is("WAITS", x.cart(0, 9), Due.NONE);
    }

    private static void next() {
        Due.saying("Promise 9", "NEXT of a CART that WAITS; NONE: it does not. UNKNOWN.");
        DecreedStreets x = Due.of("c3 60;s0 1 2 4;s0 1 3 4;k1 0 1 1 5;k0 1 0 1 9;k0 2 0 1 9;");
        Due.is("next(0): not STARTED", x.next(0), Due.NONE);
        x.minute(2);
        Due.is("next(0): WAITS", x.next(0), 0);
        Due.is("next(1): ON", x.next(1), Due.NONE);
        Due.is("next(2): at THE INN without a way", x.next(2), Due.NONE);
        x.minute(1);
        Due.is("next(1): HOME", x.next(1), Due.NONE);
        x.minute(4);
        Due.is("next(0): at THE INN", x.next(0), Due.NONE);
        Due.is("next(3)", x.next(3), Due.UNKNOWN);
        Due.is("next(-1)", x.next(-1), Due.UNKNOWN);
    }

    private static void foremost() {
        Due.saying("Promise 10", "The foremost who WAITS for a STREET on its side A (0), B (1); NONE. UNKNOWN, OUTSIDE.");
        DecreedStreets x = Due.of("c2 60;s0 1 9 4;s1 0 9 4;k0 1 0 1 99;k0 1 0 1 99;k1 0 0 1 99;");
        x.minute(1);
        Due.is("side A", x.foremost(0, 0), 1);
        Due.is("side B", x.foremost(0, 1), 2);
        Due.is("another street, A", x.foremost(1, 0), Due.NONE);
        Due.is("another street, B", x.foremost(1, 1), Due.NONE);
        x.minute(1);
        Due.is("nobody more at A", x.foremost(0, 0), Due.NONE);
        DecreedStreets y = Due.of("c2 60;" + "s0 1 9 4;".repeat(8) + "s0 1 1 4;k1 0 0 1 99;k0 1 0 1 99;k0 1 0 1 99;");
        y.minute(1);
        Due.is("the last of nine, A", y.foremost(8, 0), 2);
        Due.is("the last of nine, B", y.foremost(8, 1), 0);
        Due.is("the last but one, A", y.foremost(7, 0), Due.NONE);
        Due.is("foremost(0, -1)", x.foremost(0, -1), Due.OUTSIDE);
        Due.is("foremost(0, 2)", x.foremost(0, 2), Due.OUTSIDE);
        Due.is("foremost(2, 0)", x.foremost(2, 0), Due.UNKNOWN);
        Due.is("foremost(-1, 0)", x.foremost(-1, 0), Due.UNKNOWN);
        Due.is("foremost(2, 2)", x.foremost(2, 2), Due.UNKNOWN);
        for (int far : Due.FAR_OFF) {
            Due.is("foremost(0, " + far + ")", x.foremost(0, far), Due.OUTSIDE);
        }
    }

    private static void minute() {
        Due.saying("Promise 11", "n MINUTES (1 .. 300): how many came HOME in them. OUTSIDE");
        DecreedStreets x = Due.of("c2 60;s0 1 1 4;k0 1 0 1 9;k0 1 0 1 9;k0 1 200 1 9;");
        Due.is("minute(0)", x.minute(0), Due.OUTSIDE);
        Due.is("minute(-1)", x.minute(-1), Due.OUTSIDE);
        Due.is("minute(301)", x.minute(301), Due.OUTSIDE);
        for (int far : Due.FAR_OFF) {
            // 256 is none that is far off here
            if (far != 256) {
                Due.is("minute(" + far + ")", x.minute(far), Due.OUTSIDE);
            }
        }
        Due.is("told(5)", x.told(5), 0);
        Due.is("minute(1)", x.minute(1), 0);
        Due.is("minute(1) again", x.minute(1), 1);
        Due.is("minute(300)", x.minute(300), 2);
        Due.is("told(5)", x.told(5), 302);
        Due.is("minute(300): nobody more", x.minute(300), 0);
    }

    private static void minuteWithoutCorners() {
        Due.saying("Promise 11", "NOT: no CORNERS");
        DecreedStreets x = new DecreedStreets();
        Due.is("minute(1)", x.minute(1), Due.NOT);
        Due.is("minute(300)", x.minute(300), Due.NOT);
        Due.is("minute(301)", x.minute(301), Due.OUTSIDE);
        Due.feedAll(x, "c2 1;");
        Due.is("minute(1) ahead of city()", x.minute(1), Due.NOT);
        x.city();
        Due.is("minute(1) with CORNERS alone", x.minute(1), 0);
        x.city();
        Due.is("minute(1) without CORNERS again", x.minute(1), Due.NOT);
        Due.is("told(5)", x.told(5), 0);
    }

    private static DecreedStreets atNinetyThousand() {
        DecreedStreets x = Due.of("c2 60;s0 1 1 1;k0 1 0 1 9;");
        for (int i = 0; i < 300; i++) {
            x.minute(300);
        }
        Due.is("told(5)", x.told(5), 90000);
        return x;
    }

    private static void minutesAboveNinetyThousand() {
        Due.saying("Promise 11", "FULL: minutes are above 90000.");
        DecreedStreets x = atNinetyThousand();
        x.keep(0);
        Due.is("minute(1) at 90000", x.minute(1), 0);
        Due.is("told(5)", x.told(5), 90001);
        Due.is("90000 / 60 is even", x.street(0, 4), 0);
        Due.is("minute(1) at 90001", x.minute(1), Due.FULL);
        Due.is("minute(300) at 90001", x.minute(300), Due.FULL);
        x.goBack(0);
        Due.is("minute(300) at 90000", x.minute(300), 0);
        Due.is("told(5)", x.told(5), 90300);
        Due.is("minute(1) at 90300", x.minute(1), Due.FULL);
        Due.is("what is tried is not refused", x.allHome(300, 1), 1);
        Due.is("lost()", x.lost(), 0);
        x.city();
        Due.feedAll(x, "c2 1;");
        x.city();
        Due.is("minute(1) of the next city", x.minute(1), 0);
    }

    private static void drift() {
        Due.saying("Promise 12", "n MINUTES BY DRAWS (1 .. 300): how many came HOME in them. OUTSIDE");
        DecreedStreets x = Due.of("c2 60;s0 1 1 4;k0 1 0 1 9;k0 1 0 1 9;k0 1 200 1 9;");
        Due.is("drift(0)", x.drift(0), Due.OUTSIDE);
        Due.is("drift(-1)", x.drift(-1), Due.OUTSIDE);
        Due.is("drift(301)", x.drift(301), Due.OUTSIDE);
        for (int far : Due.FAR_OFF) {
            // 256 is none that is far off here
            if (far != 256) {
                Due.is("drift(" + far + ")", x.drift(far), Due.OUTSIDE);
            }
        }
        Due.is("told(5)", x.told(5), 0);
        Due.is("drift(1)", x.drift(1), 0);
        Due.is("drift(1) again", x.drift(1), 1);
        Due.is("drift(300)", x.drift(300), 2);
        Due.is("told(5)", x.told(5), 302);
    }

    private static void driftWithoutCorners() {
        Due.saying("Promise 12", "NOT: no CORNERS");
        DecreedStreets x = new DecreedStreets();
        x.seed(5);
        Due.is("drift(1)", x.drift(1), Due.NOT);
        Due.is("drift(300)", x.drift(300), Due.NOT);
        Due.is("drift(0)", x.drift(0), Due.OUTSIDE);
        Due.is("no draw", x.seed(5), 5);
        Due.feedAll(x, "c2 1;");
        x.city();
        Due.is("drift(1) with CORNERS alone", x.drift(1), 0);
    }

    private static void driftsAboveNinetyThousand() {
        Due.saying("Promise 12", "FULL: minutes are above 90000.");
        DecreedStreets x = atNinetyThousand();
        x.keep(0);
        Due.is("drift(1) at 90000", x.drift(1), 0);
        x.seed(5);
        Due.is("drift(1) at 90001", x.drift(1), Due.FULL);
        Due.is("drift(300) at 90001", x.drift(300), Due.FULL);
        Due.is("no draw", x.seed(5), 5);
        x.goBack(0);
        Due.is("drift(300) at 90000", x.drift(300), 0);
        Due.is("told(5)", x.told(5), 90300);
        Due.is("drift(1) at 90300", x.drift(1), Due.FULL);
    }

    private static void turn() {
        Due.saying("Promise 13", "A STREET turns: how it GOES. UNKNOWN");
        DecreedStreets x = Due.of("c2 60;s0 1 1 4;s0 1 1 0;");
        Due.is("turn(0)", x.turn(0), 1);
        Due.is("turn(1)", x.turn(1), 1);
        Due.is("turn(1) back", x.turn(1), 0);
        Due.is("turn(2)", x.turn(2), Due.UNKNOWN);
        Due.is("turn(-1)", x.turn(-1), Due.UNKNOWN);
        Due.is("street(0, 4)", x.street(0, 4), 1);
        Due.is("turn(0) without streets", Due.of("c2 1;").turn(0), Due.UNKNOWN);
    }

    private static void turnWithSomebodyOnIt() {
        Due.saying("Promise 13", "NOT: somebody is ON it.");
        DecreedStreets x = Due.of("c2 60;s0 1 2 0;k0 1 0 1 9;k1 0 0 1 9;");
        Due.is("turn(0) ahead", x.turn(0), 1);
        x.turn(0);
        x.minute(2);
        Due.is("turn(0), two minutes ON it", x.turn(0), Due.NOT);
        x.minute(2);
        Due.is("turn(0), the other is ON it", x.turn(0), Due.NOT);
        Due.is("street(0, 4)", x.street(0, 4), 1);
        x.minute(1);
        Due.is("turn(0), nobody is", x.turn(0), 0);
    }

    private static void law() {
        Due.saying("Promise 14", "LAW of a STREET becomes w: what it was. UNKNOWN.");
        DecreedStreets x = Due.of("c2 60;s0 1 9 2;s0 1 9 3;k0 1 0 1 9;");
        Due.is("law(0, 0)", x.law(0, 0), 2);
        Due.is("law(0, 4)", x.law(0, 4), 0);
        Due.is("law(0, 4) again", x.law(0, 4), 4);
        Due.is("law(0, 5)", x.law(0, 5), Due.UNKNOWN);
        Due.is("law(0, -1)", x.law(0, -1), Due.UNKNOWN);
        Due.is("law(2, 0)", x.law(2, 0), Due.UNKNOWN);
        Due.is("law(-1, 0)", x.law(-1, 0), Due.UNKNOWN);
        Due.is("street(0, 3)", x.street(0, 3), 4);
        Due.is("street(1, 3)", x.street(1, 3), 3);
        x.minute(1);
        Due.is("law(0, 1) with somebody ON it", x.law(0, 1), 4);
    }

    private static void rank() {
        Due.saying("Promise 15", "RANK of a CART becomes r (1 .. 9): what it was. UNKNOWN, OUTSIDE.");
        DecreedStreets x = Due.of("c2 60;k0 1 0 5 9;k0 1 0 6 9;");
        Due.is("rank(0, 1)", x.rank(0, 1), 5);
        Due.is("rank(0, 9)", x.rank(0, 9), 1);
        Due.is("rank(0, 0)", x.rank(0, 0), Due.OUTSIDE);
        Due.is("rank(0, 10)", x.rank(0, 10), Due.OUTSIDE);
        Due.is("rank(2, 1)", x.rank(2, 1), Due.UNKNOWN);
        Due.is("rank(-1, 1)", x.rank(-1, 1), Due.UNKNOWN);
        Due.is("rank(2, 0)", x.rank(2, 0), Due.UNKNOWN);
        Due.is("cart(0, 3)", x.cart(0, 3), 9);
        Due.is("cart(1, 3)", x.cart(1, 3), 6);
        for (int far : Due.FAR_OFF) {
            Due.is("rank(0, " + far + ")", x.rank(0, far), Due.OUTSIDE);
        }
        x.minute(1);
        Due.is("rank(0, 2) at THE INN", x.rank(0, 2), 9);
    }
}
