/** Promises 24 to 31: rut, laws, write, tear, judge, seed, keep, goBack. */
public final class RecordsTest {
    public static void main(String[] args) {
        ruts();
        lawsThatFit();
        rutsAreFromNow();
        writing();
        tearing();
        judging();
        seeds();
        images();
        Due.end();
    }

    private static void ruts() {
        DecreedStreets x = Due.of("c2 9;s0 1 1 0;");
        Due.is("rut(0, 0, 0)", x.rut(0, 0, 0), 1);
        Due.is("rut(0, 99, 1)", x.rut(0, 99, 1), 2);
        Due.is("rut(0, 100, 0)", x.rut(0, 100, 0), Due.OUTSIDE);
        Due.is("rut(0, -1, 0)", x.rut(0, -1, 0), Due.OUTSIDE);
        Due.is("rut(0, 0, 2)", x.rut(0, 0, 2), Due.OUTSIDE);
        Due.is("rut(0, 0, -1)", x.rut(0, 0, -1), Due.OUTSIDE);
        Due.is("rut(1, 100, 2)", x.rut(1, 100, 2), Due.UNKNOWN);
        Due.is("rut(-1, 0, 0)", x.rut(-1, 0, 0), Due.UNKNOWN);
        for (int i = 3; i <= 8; i++) {
            Due.is("rut " + i, x.rut(0, i, 0), i);
        }
        Due.is("the ninth", x.rut(0, 0, 0), Due.FULL);
        Due.is("the ninth, outside", x.rut(0, 0, 5), Due.OUTSIDE);
        Due.is("told(10)", x.told(10), 8);
    }

    private static void lawsThatFit() {
        DecreedStreets x = Due.of("c2 5;s0 1 9 4;s0 1 8 0;k1 0 0 9 99;k0 1 0 1 99;k0 1 0 1 99;");
        x.law(0, 1);
        Due.is("laws(0) without ruts", x.laws(0), 31);
        Due.is("laws(2)", x.laws(2), Due.UNKNOWN);
        Due.is("laws(-1)", x.laws(-1), Due.UNKNOWN);
        x.rut(1, 0, 1);
        Due.is("from B behind the next minute: by rank alone", x.laws(1), 8);
        Due.is("ruts of another street", x.laws(0), 31);
        x.tear();
        x.rut(1, 0, 0);
        Due.is("from A: all the others", x.laws(1), 23);
        x.rut(1, 9, 1);
        Due.is("both home at 9: 0 and 2 turn for him, 9 / 5 is odd", x.laws(1), 7);
        x.rut(1, 8, 1);
        Due.is("at 8 it cannot have turned", x.laws(1), 0);
        Due.is("street(1, 3) is as it was", x.street(1, 3), 0);
        x.tear();
        x.rut(0, 4, 0);
        x.rut(0, 5, 1);
        x.rut(0, 99, 1);
        Due.is("an empty street: by the hour", x.laws(0), 2);
    }

    private static void rutsAreFromNow() {
        DecreedStreets x = Due.of("c2 3;s0 1 1 1;");
        x.rut(0, 2, 0);
        x.rut(0, 3, 1);
        Due.is("laws(0) at 0", x.laws(0), 2);
        x.minute(1);
        Due.is("laws(0) at 1: minutes are counted from now", x.laws(0), 0);
        x.minute(5);
        Due.is("laws(0) at 6", x.laws(0), 2);
    }

    private static void writing() {
        DecreedStreets x = Due.of("c2 9;s0 1 1 0;k0 1 0 1 1;");
        Due.is("write(0, 0)", x.write(0, 0), 1);
        Due.is("write(0, 99999)", x.write(0, 99999), 2);
        Due.is("write(0, 100000)", x.write(0, 100000), Due.OUTSIDE);
        Due.is("write(0, -1)", x.write(0, -1), Due.OUTSIDE);
        Due.is("write(1, -1)", x.write(1, -1), Due.UNKNOWN);
        Due.is("write(-1, 0)", x.write(-1, 0), Due.UNKNOWN);
        for (int i = 3; i <= 15; i++) {
            Due.is("entry " + i, x.write(0, i), i);
        }
        Due.is("the sixteenth", x.write(0, 0), Due.FULL);
        Due.is("the sixteenth, outside", x.write(0, -1), Due.OUTSIDE);
        Due.is("told(11)", x.told(11), 15);
    }

    private static void tearing() {
        DecreedStreets x = Due.of("c2 9;s0 1 1 0;k0 1 0 1 1;");
        Due.is("tear() of nothing", x.tear(), 0);
        x.rut(0, 0, 0);
        x.write(0, 0);
        x.write(0, 1);
        Due.is("tear()", x.tear(), 3);
        Due.is("told(10)", x.told(10), 0);
        Due.is("told(11)", x.told(11), 0);
        Due.is("judge()", x.judge(), Due.NONE);
        Due.is("tear() again", x.tear(), 0);
        Due.is("rut(0, 0, 0)", x.rut(0, 0, 0), 1);
        Due.is("write(0, 0)", x.write(0, 0), 1);
    }

    private static void judging() {
        DecreedStreets x = Due.of("c3 9;s0 1 2 0;k0 1 0 1 1;k0 1 5 1 1;k0 2 0 1 1;");
        x.write(0, 2);
        Due.is("judge(): not home yet", x.judge(), 0);
        x.minute(3);
        Due.is("judge(): so now", x.judge(), Due.NONE);
        x.write(1, 7);
        Due.is("judge(): the second", x.judge(), 1);
        x.minute(5);
        Due.is("judge(): both", x.judge(), Due.NONE);
        x.write(0, 2);
        x.write(0, 3);
        Due.is("judge(): another minute", x.judge(), 3);
        x.tear();
        x.write(2, 0);
        Due.is("judge(): he is at the inn", x.judge(), 0);
    }

    private static void seeds() {
        DecreedStreets x = new DecreedStreets();
        Due.is("seed(2147483647)", x.seed(2147483647), 0);
        Due.is("seed(-1)", x.seed(-1), Due.OUTSIDE);
        Due.is("seed(least)", x.seed(Integer.MIN_VALUE), Due.OUTSIDE);
        Due.is("seed(0)", x.seed(0), 2147483647);
        x = Due.of("c2 9;");
        x.seed(2147483647);
        x.drift(1);
        Due.is("the seed behind a draw", x.seed(3), (2147483647L * 1103515245L + 12345L) % (1L << 31));
        x.minute(9);
        x.allHome(9, 0);
        Due.is("no draw but by drift", x.seed(3), 3);
    }

    private static void images() {
        DecreedStreets x = Due.of("c2 9;s0 1 4 0;k0 1 0 1 99;k1 0 1 2 99;k0 1 3 3 0;");
        Due.is("keep(2)", x.keep(2), Due.UNKNOWN);
        Due.is("keep(-1)", x.keep(-1), Due.UNKNOWN);
        Due.is("goBack(2)", x.goBack(2), Due.UNKNOWN);
        Due.is("goBack(-1)", x.goBack(-1), Due.UNKNOWN);
        Due.is("goBack(1): not kept", x.goBack(1), Due.NOT);
        x.minute(2);
        x.seed(11);
        Due.is("keep(1)", x.keep(1), 1);
        Due.is("goBack(0): not kept", x.goBack(0), Due.NOT);
        x.rut(0, 0, 0);
        x.write(0, 4);
        int home = x.minute(20);
        x.turn(0);
        x.law(0, 3);
        x.rank(0, 9);
        x.seed(12);
        Due.is("keep(0)", x.keep(0), 1);
        Due.is("goBack(1)", x.goBack(1), 1);
        Due.is("told(5)", x.told(5), 2);
        Due.is("told(9)", x.told(9), 1);
        Due.is("street(0, 3)", x.street(0, 3), 0);
        Due.is("street(0, 4)", x.street(0, 4), 0);
        Due.is("street(0, 5)", x.street(0, 5), 1);
        Due.is("foremost(0, 1)", x.foremost(0, 1), 1);
        Due.is("cart(0, 3)", x.cart(0, 3), 1);
        Due.is("cart(0, 5)", x.cart(0, 5), 2);
        Due.is("cart(1, 8)", x.cart(1, 8), 1);
        Due.is("cart(2, 7)", x.cart(2, 7), Due.NONE);
        Due.is("seed", x.seed(11), 11);
        Due.is("ruts stay", x.told(10), 1);
        Due.is("the record stays", x.told(11), 1);
        Due.is("and so on again", x.minute(20), home);
        Due.is("goBack(0)", x.goBack(0), 1);
        Due.is("told(5) of image 0", x.told(5), 22);
        Due.is("street(0, 3) of image 0", x.street(0, 3), 3);
        Due.is("cart(0, 3) of image 0", x.cart(0, 3), 9);
        Due.is("seed of image 0", x.seed(0), 12);
        Due.is("goBack(1) again", x.goBack(1), 1);
        Due.is("told(5) again", x.told(5), 2);
    }
}
