import java.util.function.ToIntFunction;

/** The boundary cases that "What it is" and "Terms" name: 512 calls, refusals, their order, and that they change nothing. */
public final class BoundsOfTermsTest {
    public static void main(String[] args) {
        fiveHundredAndTwelveCalls();
        oneObjectIsNothingToAnother();
        numbersCutTowardsZero();
        numbersFromZeroOn();
        setsBitByBit();
        constants();
        unknownThings();
        unknownAheadOfOutside();
        unknownAheadOfNotAndFull();
        outsideAheadOfNot();
        outsideAheadOfFull();
        refusedChangesNothing();
        refusedWhenFullChangesNothing();
        refusedWithoutACityChangesNothing();
        Due.end();
    }

    private static void fiveHundredAndTwelveCalls() {
        Due.saying("What it is", "An object is used for at most 512 calls after it has been made");
        DecreedStreets x = new DecreedStreets();
        String text = "c2 3;s0 1 1 1;s0 1 9 2;k0 1 0 1 9;";
        Due.feedAll(x, text);
        Due.is("city()", x.city(), 2);
        int calls = text.length() + 1;
        for (int t = 0; calls < 511; t++, calls += 2) {
            Due.is("minute(1), call " + (calls + 1), x.minute(1), t == 1 ? 1 : 0);
            Due.is("street(0, 4), call " + (calls + 2), x.street(0, 4), t == 0 ? 0 : t / 3 % 2);
        }
        Due.is("told(5), call " + (calls + 1), x.told(5), (512 - text.length() - 1) / 2);
        Due.is("calls", calls + 1, 512);
    }

    private static void oneObjectIsNothingToAnother() {
        Due.saying("Promise 1", "No CORNERS.");
        DecreedStreets one = Due.of("c2 3;s0 1 1 1;k0 1 0 1 9;");
        one.seed(9);
        one.keep(0);
        one.minute(4);
        DecreedStreets other = new DecreedStreets();
        for (int what = 0; what <= 11; what++) {
            Due.is("told(" + what + ") of another object", other.told(what), 0);
        }
        Due.is("goBack(0) of another object", other.goBack(0), Due.NOT);
        Due.is("seed(1) of another object", other.seed(1), 0);
        Due.is("told(5) of the one", one.told(5), 4);
        Due.is("told(6) of the one", one.told(6), 1);
    }

    private static void numbersCutTowardsZero() {
        Due.saying("Terms", "All numbers are whole; / cuts towards 0.");
        DecreedStreets x = Due.of("c2 60;s0 1 1 1;");
        x.minute(59);
        x.minute(1);
        Due.is("59 / 60 is 0", x.street(0, 4), 0);
        x.minute(1);
        Due.is("60 / 60 is 1", x.street(0, 4), 1);
    }

    private static void numbersFromZeroOn() {
        Due.saying("Terms", "What has a number has it from 0 on, as it comes.");
        DecreedStreets x = Due.of("c4 1;s0 1 3 0;k0 1 7 1 9;s1 2 4 1;s2 3 5 2;k2 1 8 1 9;");
        Due.is("street(0, 2)", x.street(0, 2), 3);
        Due.is("street(1, 2)", x.street(1, 2), 4);
        Due.is("street(2, 2), told behind a cart", x.street(2, 2), 5);
        Due.is("cart(0, 2)", x.cart(0, 2), 7);
        Due.is("cart(1, 2), told behind streets", x.cart(1, 2), 8);
        Due.is("street(3, 2)", x.street(3, 2), Due.UNKNOWN);
        Due.is("cart(2, 2)", x.cart(2, 2), Due.UNKNOWN);
        Due.is("far(3, 0): the last corner", x.far(3, 0), 12);
        Due.is("far(4, 0)", x.far(4, 0), Due.UNKNOWN);
    }

    private static void setsBitByBit() {
        Due.saying("Terms", "A SET is a whole number, bit k for k.");
        DecreedStreets x = Due.of("c2 60;s0 1 6 0;k0 1 0 1 99;k0 1 0 1 99;k0 1 0 1 99;k0 1 0 1 99;k0 1 0 1 99;k0 1 0 1 99;");
        Due.is("lost(): nobody", x.lost(), 0);
        x.minute(1);
        Due.is("told(8): all but the first", x.told(8), 62);
        Due.is("street(0, 5): the first", x.street(0, 5), 1);
        x.minute(5);
        Due.is("street(0, 5): all six", x.street(0, 5), 63);
        Due.is("told(6): nobody", x.told(6), 0);
        x.minute(1);
        Due.is("told(6): the first", x.told(6), 1);
        x.minute(5);
        Due.is("told(6): all six", x.told(6), 63);
        Due.is("laws(0): all five", x.laws(0), 31);
    }

    private static void constants() {
        Due.saying("Terms", "NONE is -1.");
        Due.is("NONE", DecreedStreets.NONE, -1);
        Due.saying("Terms", "They are far below all that is counted: -1000000001 and on.");
        Due.is("UNKNOWN", DecreedStreets.UNKNOWN, -1000000001);
        Due.is("OUTSIDE", DecreedStreets.OUTSIDE, -1000000002);
        Due.is("NOT", DecreedStreets.NOT, -1000000003);
        Due.is("FULL", DecreedStreets.FULL, -1000000004);
    }

    /** Two of all: streets, carts, images; five laws, three corners. */
    private static DecreedStreets small() {
        return Due.of("c3 4;s0 1 2 0;s1 2 3 1;k0 2 0 5 99;k2 0 9 3 99;");
    }

    private static void unknownThings() {
        Due.saying("Terms", "UNKNOWN (a CORNER, STREET, CART, LAW, IMAGE that there is not)");
        DecreedStreets x = small();
        int[] around = {-1, 3, 7, 100};
        for (int c : around) {
            unknownCorner(x, c);
        }
        for (int i : new int[] {-2, 2, 9}) {
            unknownStreetOrCart(x, i, true);
        }
        unknownStreetOrCart(x, -1, false);
        for (int w : new int[] {-1, 5, 9}) {
            Due.is("law(0, " + w + ")", x.law(0, w), Due.UNKNOWN);
        }
        for (int i : new int[] {-1, 2, 9}) {
            Due.is("keep(" + i + ")", x.keep(i), Due.UNKNOWN);
            Due.is("goBack(" + i + ")", x.goBack(i), Due.UNKNOWN);
        }
        x = small();
        for (int far : Due.FAR_OFF) {
            unknownCorner(x, far);
            unknownStreetOrCart(x, far, true);
            Due.is("law(0, " + far + ")", x.law(0, far), Due.UNKNOWN);
            Due.is("keep(" + far + ")", x.keep(far), Due.UNKNOWN);
            Due.is("goBack(" + far + ")", x.goBack(far), Due.UNKNOWN);
        }
    }

    private static void unknownCorner(DecreedStreets x, int c) {
        Due.is("far(" + c + ", 0)", x.far(c, 0), Due.UNKNOWN);
        Due.is("far(0, " + c + ")", x.far(0, c), Due.UNKNOWN);
        Due.is("foreseen(" + c + ", 0, 0)", x.foreseen(c, 0, 0), Due.UNKNOWN);
        Due.is("foreseen(0, " + c + ", 0)", x.foreseen(0, c, 0), Due.UNKNOWN);
        Due.is("bought(" + c + ", 0, 0, 9)", x.bought(c, 0, 0, 9), Due.UNKNOWN);
        Due.is("bought(0, " + c + ", 0, 9)", x.bought(0, c, 0, 9), Due.UNKNOWN);
    }

    /** For ranks and bestLaw NONE is none of those that there are not. */
    private static void unknownStreetOrCart(DecreedStreets x, int i, boolean noneToo) {
        Due.is("street(" + i + ", 0)", x.street(i, 0), Due.UNKNOWN);
        Due.is("foremost(" + i + ", 0)", x.foremost(i, 0), Due.UNKNOWN);
        Due.is("turn(" + i + ")", x.turn(i), Due.UNKNOWN);
        Due.is("law(" + i + ", 0)", x.law(i, 0), Due.UNKNOWN);
        Due.is("rut(" + i + ", 0, 0)", x.rut(i, 0, 0), Due.UNKNOWN);
        Due.is("laws(" + i + ")", x.laws(i), Due.UNKNOWN);
        Due.is("cart(" + i + ", 0)", x.cart(i, 0), Due.UNKNOWN);
        Due.is("next(" + i + ")", x.next(i), Due.UNKNOWN);
        Due.is("rank(" + i + ", 1)", x.rank(i, 1), Due.UNKNOWN);
        Due.is("costs(" + i + ", 1)", x.costs(i, 1), Due.UNKNOWN);
        Due.is("write(" + i + ", 0)", x.write(i, 0), Due.UNKNOWN);
        if (noneToo) {
            Due.is("bestLaw(1, " + i + ")", x.bestLaw(1, i), Due.UNKNOWN);
            Due.is("ranks(1, " + i + ")", x.ranks(1, i), Due.UNKNOWN);
        }
    }

    private static void unknownAheadOfOutside() {
        Due.saying("Terms", "REFUSALS, of several the first in this order: UNKNOWN");
        DecreedStreets x = small();
        Due.is("street(2, 6)", x.street(2, 6), Due.UNKNOWN);
        Due.is("cart(2, 10)", x.cart(2, 10), Due.UNKNOWN);
        Due.is("foremost(2, 2)", x.foremost(2, 2), Due.UNKNOWN);
        Due.is("rank(2, 0)", x.rank(2, 0), Due.UNKNOWN);
        Due.is("foreseen(3, 0, 1000)", x.foreseen(3, 0, 1000), Due.UNKNOWN);
        Due.is("foreseen(0, 3, -1)", x.foreseen(0, 3, -1), Due.UNKNOWN);
        Due.is("bought(3, 0, 1000, 0)", x.bought(3, 0, 1000, 0), Due.UNKNOWN);
        Due.is("bought(0, 3, 0, 301)", x.bought(0, 3, 0, 301), Due.UNKNOWN);
        Due.is("ranks(0, 2)", x.ranks(0, 2), Due.UNKNOWN);
        Due.is("bestLaw(301, 2)", x.bestLaw(301, 2), Due.UNKNOWN);
        Due.is("costs(2, 0)", x.costs(2, 0), Due.UNKNOWN);
        Due.is("rut(2, 100, 0)", x.rut(2, 100, 0), Due.UNKNOWN);
        Due.is("rut(2, 0, 2)", x.rut(2, 0, 2), Due.UNKNOWN);
        Due.is("write(2, -1)", x.write(2, -1), Due.UNKNOWN);
    }

    private static void unknownAheadOfNotAndFull() {
        Due.saying("Terms", "REFUSALS, of several the first in this order: UNKNOWN");
        DecreedStreets x = small();
        for (int i = 0; i < 8; i++) {
            x.rut(0, 0, 0);
        }
        for (int i = 0; i < 15; i++) {
            x.write(0, 0);
        }
        Due.is("rut(2, 0, 0), full", x.rut(2, 0, 0), Due.UNKNOWN);
        Due.is("write(2, 0), full", x.write(2, 0), Due.UNKNOWN);
        Due.is("goBack(2), nothing kept", x.goBack(2), Due.UNKNOWN);
        x.minute(10);
        Due.is("costs(2, 1), all have started", x.costs(2, 1), Due.UNKNOWN);
        Due.is("turn(2), somebody is ON others", x.turn(2), Due.UNKNOWN);
    }

    private static void outsideAheadOfNot() {
        Due.saying("Terms", "OUTSIDE (another number out of its bounds), NOT (not now, as told), FULL.");
        DecreedStreets x = new DecreedStreets();
        for (int n : new int[] {0, -1, 301}) {
            Due.is("minute(" + n + ") without corners", x.minute(n), Due.OUTSIDE);
            Due.is("drift(" + n + ") without corners", x.drift(n), Due.OUTSIDE);
        }
        x = small();
        x.minute(1);
        Due.is("costs(0, 0), started", x.costs(0, 0), Due.OUTSIDE);
        Due.is("costs(0, 301), started", x.costs(0, 301), Due.OUTSIDE);
        Due.is("costs(0, 300), started", x.costs(0, 300), Due.NOT);
    }

    private static void outsideAheadOfFull() {
        Due.saying("Terms", "OUTSIDE (another number out of its bounds), NOT (not now, as told), FULL.");
        DecreedStreets x = small();
        for (int i = 0; i < 8; i++) {
            x.rut(0, 0, 0);
        }
        for (int i = 0; i < 15; i++) {
            x.write(0, 0);
        }
        Due.is("rut(0, 100, 0), full", x.rut(0, 100, 0), Due.OUTSIDE);
        Due.is("rut(0, 0, 2), full", x.rut(0, 0, 2), Due.OUTSIDE);
        Due.is("rut(0, 0, 0), full", x.rut(0, 0, 0), Due.FULL);
        Due.is("write(0, 100000), full", x.write(0, 100000), Due.OUTSIDE);
        Due.is("write(0, 0), full", x.write(0, 0), Due.FULL);
        x = fullText();
        Due.is("feed(256), full", x.feed(256), Due.OUTSIDE);
        Due.is("feed(-1), full", x.feed(-1), Due.OUTSIDE);
        Due.is("feed(0), full", x.feed(0), Due.FULL);
        x = fullMinutes();
        Due.is("minute(301), full", x.minute(301), Due.OUTSIDE);
        Due.is("drift(0), full", x.drift(0), Due.OUTSIDE);
        Due.is("minute(300), full", x.minute(300), Due.FULL);
        Due.is("drift(1), full", x.drift(1), Due.FULL);
    }

    private static DecreedStreets fullText() {
        DecreedStreets x = new DecreedStreets();
        Due.feedAll(x, "c2 1;" + " ".repeat(245));
        return x;
    }

    private static DecreedStreets fullMinutes() {
        DecreedStreets x = Due.of("c2 1;s0 1 1 1;");
        for (int i = 0; i < 301; i++) {
            x.minute(300);
        }
        return x;
    }

    /** In the midst of it all: one ON street 0, one who WAITS, one ahead; ruts, a record, an image, a text. */
    private static DecreedStreets midst() {
        DecreedStreets x = Due.of("c3 4;s0 1 5 0;s1 2 3 2;k0 2 0 5 9;k1 0 1 3 9;k2 0 50 7 9;");
        x.minute(1);
        x.seed(3);
        x.keep(0);
        x.turn(1);
        x.minute(2);
        x.rut(1, 0, 1);
        x.rut(0, 9, 1);
        x.write(0, 8);
        x.seed(77);
        Due.feedAll(x, "c2 x");
        return x;
    }

    private static void refusedChangesNothing() {
        Due.saying("Terms", "What is refused changes nothing.");
        for (int bad : new int[] {-1, 256}) {
            leaves("feed(" + bad + ")", BoundsOfTermsTest::midst, x -> x.feed(bad), Due.OUTSIDE);
        }
        leaves("turn(0), one is ON it", BoundsOfTermsTest::midst, x -> x.turn(0), Due.NOT);
        leaves("turn(2)", BoundsOfTermsTest::midst, x -> x.turn(2), Due.UNKNOWN);
        leaves("law(0, 5)", BoundsOfTermsTest::midst, x -> x.law(0, 5), Due.UNKNOWN);
        leaves("law(0, -1)", BoundsOfTermsTest::midst, x -> x.law(0, -1), Due.UNKNOWN);
        leaves("law(2, 1)", BoundsOfTermsTest::midst, x -> x.law(2, 1), Due.UNKNOWN);
        leaves("rank(0, 0)", BoundsOfTermsTest::midst, x -> x.rank(0, 0), Due.OUTSIDE);
        leaves("rank(0, 10)", BoundsOfTermsTest::midst, x -> x.rank(0, 10), Due.OUTSIDE);
        leaves("rank(3, 1)", BoundsOfTermsTest::midst, x -> x.rank(3, 1), Due.UNKNOWN);
        leaves("minute(0)", BoundsOfTermsTest::midst, x -> x.minute(0), Due.OUTSIDE);
        leaves("minute(301)", BoundsOfTermsTest::midst, x -> x.minute(301), Due.OUTSIDE);
        leaves("drift(0)", BoundsOfTermsTest::midst, x -> x.drift(0), Due.OUTSIDE);
        leaves("drift(301)", BoundsOfTermsTest::midst, x -> x.drift(301), Due.OUTSIDE);
        leaves("rut(2, 0, 0)", BoundsOfTermsTest::midst, x -> x.rut(2, 0, 0), Due.UNKNOWN);
        leaves("rut(0, 100, 0)", BoundsOfTermsTest::midst, x -> x.rut(0, 100, 0), Due.OUTSIDE);
        leaves("rut(0, 0, 2)", BoundsOfTermsTest::midst, x -> x.rut(0, 0, 2), Due.OUTSIDE);
        leaves("write(3, 0)", BoundsOfTermsTest::midst, x -> x.write(3, 0), Due.UNKNOWN);
        leaves("write(0, 100000)", BoundsOfTermsTest::midst, x -> x.write(0, 100000), Due.OUTSIDE);
        leaves("seed(-1)", BoundsOfTermsTest::midst, x -> x.seed(-1), Due.OUTSIDE);
        leaves("keep(2)", BoundsOfTermsTest::midst, x -> x.keep(2), Due.UNKNOWN);
        leaves("goBack(2)", BoundsOfTermsTest::midst, x -> x.goBack(2), Due.UNKNOWN);
        leaves("goBack(1), not kept", BoundsOfTermsTest::midst, x -> x.goBack(1), Due.NOT);
        leaves("costs(0, 9), started", BoundsOfTermsTest::midst, x -> x.costs(0, 9), Due.NOT);
        leaves("ranks(0, 0)", BoundsOfTermsTest::midst, x -> x.ranks(0, 0), Due.OUTSIDE);
        leaves("bestLaw(9, 2)", BoundsOfTermsTest::midst, x -> x.bestLaw(9, 2), Due.UNKNOWN);
    }

    private interface Made {
        DecreedStreets anew();
    }

    private static void leaves(String call, Made made, ToIntFunction<DecreedStreets> refused, int refusal) {
        DecreedStreets touched = made.anew();
        Due.is(call, refused.applyAsInt(touched), refusal);
        String with = picture(touched);
        String without = picture(made.anew());
        Due.is(call + " changes nothing: " + without + " became " + with, with.equals(without) ? 1 : 0, 1);
    }

    private static void refusedWhenFullChangesNothing() {
        Due.saying("Terms", "What is refused changes nothing.");
        leaves("feed(32), 250 letters", BoundsOfTermsTest::fullText, x -> x.feed(32), Due.FULL);
        leaves("feed(120), 250 letters", BoundsOfTermsTest::fullText, x -> x.feed('x'), Due.FULL);
        leaves("minute(1), above 90000", BoundsOfTermsTest::fullMinutes, x -> x.minute(1), Due.FULL);
        leaves("drift(1), above 90000", BoundsOfTermsTest::fullMinutes, x -> x.drift(1), Due.FULL);
        leaves("rut(1, 0, 0), eight", BoundsOfTermsTest::fullNotes, x -> x.rut(1, 0, 0), Due.FULL);
        leaves("write(1, 0), fifteen", BoundsOfTermsTest::fullNotes, x -> x.write(1, 0), Due.FULL);
    }

    private static DecreedStreets fullNotes() {
        DecreedStreets x = midst();
        for (int i = 0; i < 6; i++) {
            x.rut(0, i, 0);
        }
        for (int i = 0; i < 14; i++) {
            x.write(0, 8);
        }
        return x;
    }

    private static void refusedWithoutACityChangesNothing() {
        Due.saying("Terms", "What is refused changes nothing.");
        leaves("minute(1), no corners", DecreedStreets::new, x -> x.minute(1), Due.NOT);
        leaves("drift(9), no corners", DecreedStreets::new, x -> x.drift(9), Due.NOT);
        leaves("goBack(0), not kept", DecreedStreets::new, x -> x.goBack(0), Due.NOT);
    }

    /** All that can be asked of an object, at last by calls that change it; some 150 of them. */
    private static String picture(DecreedStreets x) {
        StringBuilder all = new StringBuilder();
        all.append(x.fault()).append(' ').append(x.judge()).append(' ');
        shown(x, all);
        for (int s = 0; s < x.told(1); s++) {
            all.append("laws ").append(x.laws(s)).append(' ');
        }
        all.append(x.allHome(40, 1)).append(' ').append(x.ranks(40, -1)).append(" seed ").append(x.seed(5)).append(' ');
        all.append("images ");
        for (int i = 0; i < 2; i++) {
            all.append(x.goBack(i)).append(' ').append(x.seed(6)).append(' ').append(x.told(5)).append(' ');
        }
        shown(x, all);
        x.minute(20);
        shown(x, all);
        all.append(x.judge()).append(" torn ").append(x.tear()).append(" city ").append(x.city()).append(' ').append(x.fault());
        return all.toString();
    }

    private static void shown(DecreedStreets x, StringBuilder all) {
        for (int what = 0; what < 12; what++) {
            all.append(x.told(what)).append(' ');
        }
        for (int s = 0; s < x.told(1); s++) {
            all.append("street ").append(x.street(s, 3)).append(' ').append(x.street(s, 4)).append(' ').append(x.street(s, 5)).append(' ');
        }
        for (int k = 0; k < x.told(2); k++) {
            all.append("cart ");
            for (int what = 3; what < 9; what++) {
                all.append(x.cart(k, what)).append(' ');
            }
        }
    }
}
