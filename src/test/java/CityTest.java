/** Promises 5 to 10: told, far, street, cart, next, foremost. */
public final class CityTest {
    public static void main(String[] args) {
        telling();
        distances();
        streets();
        carts();
        leastStreetsNearer();
        foremostOnASide();
        Due.end();
    }

    /** 0 waits behind 1 at street 0, 2 has no way, 3 has patience 0 on the closed side, 4 comes late. */
    private static DecreedStreets busy() {
        return Due.of("c4 7;s0 1 3 4;k0 1 0 2 9;k0 1 0 5 9;k0 3 0 1 9;k1 0 0 1 0;k0 1 50 1 1;");
    }

    private static void telling() {
        DecreedStreets x = busy();
        int[] atFirst = {4, 1, 5, 7, 0, 0, 0, 0, 0, 0, 0, 0};
        for (int what = 0; what < 12; what++) {
            Due.is("told(" + what + ") at first", x.told(what), atFirst[what]);
        }
        x.minute(1);
        x.rut(0, 1, 1);
        x.write(0, 4);
        x.write(1, 3);
        x.feed(32);
        int[] behindOne = {4, 1, 5, 7, 1, 1, 0, 4 | 8, 1, 2, 1, 2};
        for (int what = 0; what < 12; what++) {
            Due.is("told(" + what + ") behind one", x.told(what), behindOne[what]);
        }
        x.minute(3);
        Due.is("told(5)", x.told(5), 4);
        Due.is("told(6) behind four", x.told(6), 2);
        x.minute(1);
        Due.is("told(6) behind five", x.told(6), 3);
        Due.is("told(8) behind five", x.told(8), 0);
        Due.is("told(9) behind five", x.told(9), 2);
        Due.is("told(-1)", x.told(-1), Due.OUTSIDE);
        Due.is("told(12)", x.told(12), Due.OUTSIDE);
        Due.is("told(least)", x.told(Integer.MIN_VALUE), Due.OUTSIDE);
    }

    private static void distances() {
        DecreedStreets x = Due.of("c6 1;s0 1 9 4;s1 2 3 1;s2 0 4 0;s2 3 9 2;s0 3 9 3;s4 5 1 0;");
        Due.is("far(0, 0)", x.far(0, 0), 0);
        Due.is("far(0, 1) round", x.far(0, 1), 7);
        Due.is("far(1, 0) against the law", x.far(1, 0), 7);
        Due.is("far(0, 2)", x.far(0, 2), 4);
        Due.is("far(3, 1)", x.far(3, 1), 12);
        Due.is("far(0, 3)", x.far(0, 3), 9);
        Due.is("far(0, 4)", x.far(0, 4), Due.NONE);
        Due.is("far(5, 3)", x.far(5, 3), Due.NONE);
        Due.is("far(5, 4)", x.far(5, 4), 1);
        Due.is("far(6, 0)", x.far(6, 0), Due.UNKNOWN);
        Due.is("far(0, 6)", x.far(0, 6), Due.UNKNOWN);
        Due.is("far(-1, 0)", x.far(-1, 0), Due.UNKNOWN);
        Due.is("far(0, -1)", x.far(0, -1), Due.UNKNOWN);
    }

    private static void streets() {
        DecreedStreets x = Due.of("c4 3;s2 1 5 1;s0 3 4 3;k0 3 0 1 9;k0 3 1 1 9;");
        int[] want = {2, 1, 5, 1, 0, 0};
        for (int what = 0; what < 6; what++) {
            Due.is("street(0, " + what + ")", x.street(0, what), want[what]);
        }
        x.minute(2);
        Due.is("street(1, 5): two on it", x.street(1, 5), 3);
        x.minute(3);
        Due.is("street(1, 5): one has left", x.street(1, 5), 2);
        Due.is("street(0, 4) by the hour", x.street(0, 4), 1);
        x.minute(1);
        Due.is("street(1, 5): both have", x.street(1, 5), 0);
        x.law(1, 2);
        Due.is("street(1, 3)", x.street(1, 3), 2);
        x.turn(1);
        Due.is("street(1, 4)", x.street(1, 4), 1);
        Due.is("street(2, 0)", x.street(2, 0), Due.UNKNOWN);
        Due.is("street(-1, 0)", x.street(-1, 0), Due.UNKNOWN);
        Due.is("street(0, 6)", x.street(0, 6), Due.OUTSIDE);
        Due.is("street(0, -1)", x.street(0, -1), Due.OUTSIDE);
        Due.is("street(2, 6)", x.street(2, 6), Due.UNKNOWN);
    }

    private static void carts() {
        DecreedStreets x = busy();
        isCart(x, 0, 0, 1, 0, 2, 9, 0, 0, -1, 0, -1);
        isCart(x, 4, 0, 1, 50, 1, 1, 0, 0, -1, 0, -1);
        x.minute(1);
        isCart(x, 0, 0, 1, 0, 2, 9, 1, 0, 0, 1, -1);
        isCart(x, 1, 0, 1, 0, 5, 9, 2, 0, 0, 0, -1);
        isCart(x, 2, 0, 3, 0, 1, 9, 4, 0, 0, 0, -1);
        isCart(x, 3, 1, 0, 0, 1, 0, 4, 1, 0, 1, -1);
        x.minute(1);
        isCart(x, 0, 0, 1, 0, 2, 9, 2, 0, 1, 1, -1);
        x.minute(3);
        isCart(x, 0, 0, 1, 0, 2, 9, 3, 1, 4, 1, 4);
        isCart(x, 1, 0, 1, 0, 5, 9, 3, 1, 3, 0, 3);
        x.rank(1, 7);
        Due.is("cart(1, 3)", x.cart(1, 3), 7);
        x.minute(50);
        Due.is("cart(4, 9): from its start", x.cart(4, 9), 3);
        Due.is("cart(4, 7)", x.cart(4, 7), 53);
        Due.is("cart(5, 0)", x.cart(5, 0), Due.UNKNOWN);
        Due.is("cart(-1, 0)", x.cart(-1, 0), Due.UNKNOWN);
        Due.is("cart(0, 10)", x.cart(0, 10), Due.OUTSIDE);
        Due.is("cart(0, -1)", x.cart(0, -1), Due.OUTSIDE);
        Due.is("cart(5, 10)", x.cart(5, 10), Due.UNKNOWN);
        patienceOfTheWholeTrip();
    }

    /** Waits two minutes at the first street and one at the second: the third is one too many. */
    private static void patienceOfTheWholeTrip() {
        DecreedStreets x = Due.of("c3 2;s1 0 1 1;s2 1 1 1;k0 2 0 1 2;");
        x.minute(4);
        isCart(x, 0, 0, 2, 0, 1, 2, 2, 1, 3, 2, -1);
        x = Due.of("c3 3;s1 0 2 1;s1 2 1 1;k0 2 0 1 3;");
        x.minute(5);
        isCart(x, 0, 0, 2, 0, 1, 3, 2, 0, 3, 3, -1);
        x.minute(1);
        isCart(x, 0, 0, 2, 0, 1, 3, 4, 1, 5, 4, -1);
    }

    private static void isCart(DecreedStreets x, int k, int... want) {
        for (int what = 0; what < want.length; what++) {
            Due.is("cart(" + k + ", " + what + ") at " + x.told(5), x.cart(k, what), want[what]);
        }
    }

    private static void leastStreetsNearer() {
        DecreedStreets x = Due.of("c4 60;s0 3 9 1;s0 2 3 1;s2 3 2 1;s1 0 1 1;s3 1 4 1;k3 0 0 1 99;k0 3 0 1 99;k1 0 0 1 99;k3 0 9 1 9;");
        Due.is("next(0) ahead of its start", x.next(0), Due.NONE);
        x.minute(1);
        Due.is("next(0): street 2 and street 4 are as short", x.next(0), 2);
        Due.is("next(1) is ON", x.next(1), Due.NONE);
        Due.is("next(2) is ON", x.next(2), Due.NONE);
        Due.is("next(3) has not started", x.next(3), Due.NONE);
        x.minute(9);
        Due.is("next(2) is home", x.next(2), Due.NONE);
        Due.is("next(3)", x.next(3), 2);
        Due.is("next(4)", x.next(4), Due.UNKNOWN);
        Due.is("next(-1)", x.next(-1), Due.UNKNOWN);
        x = Due.of("c2 60;s0 1 9 4;s1 0 5 4;s0 1 5 4;k0 1 0 1 9;k1 0 0 1 9;");
        x.minute(1);
        Due.is("next: the longer way is none", x.next(0), 1);
        Due.is("on: the other side enters", x.street(1, 5), 2);
    }

    private static void foremostOnASide() {
        DecreedStreets x = Due.of("c2 60;s0 1 1 1;k1 0 2 3 99;k1 0 1 3 99;k1 0 1 3 99;k1 0 0 2 99;k0 1 3 9 9;");
        Due.is("foremost(0, 1) at first", x.foremost(0, 1), Due.NONE);
        x.minute(1);
        Due.is("foremost(0, 1): the lone one", x.foremost(0, 1), 3);
        x.minute(1);
        Due.is("foremost(0, 1): by rank, then the lesser number", x.foremost(0, 1), 1);
        x.minute(2);
        Due.is("foremost(0, 1): who waits longer", x.foremost(0, 1), 1);
        Due.is("foremost(0, 0): he is ON it", x.foremost(0, 0), Due.NONE);
        x.rank(3, 9);
        Due.is("foremost(0, 1) by the new rank", x.foremost(0, 1), 3);
        Due.is("foremost(0, 2)", x.foremost(0, 2), Due.OUTSIDE);
        Due.is("foremost(0, -1)", x.foremost(0, -1), Due.OUTSIDE);
        Due.is("foremost(1, 2)", x.foremost(1, 2), Due.UNKNOWN);
        Due.is("foremost(-1, 0)", x.foremost(-1, 0), Due.UNKNOWN);
    }
}
