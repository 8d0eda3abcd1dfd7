/** Promises 1 to 4: a new object, feed, city, fault. */
public final class TextTest {
    public static void main(String[] args) {
        aNewObject();
        feeding();
        whatStands();
        faults();
        faultOrder();
        mostOfAll();
        whatCityChanges();
        whatAFaultLeaves();
        lettersOfAnEarlierText();
        Due.end();
    }

    private static void aNewObject() {
        DecreedStreets x = new DecreedStreets();
        for (int what = 0; what <= 11; what++) {
            Due.is("new told(" + what + ")", x.told(what), 0);
        }
        Due.is("new fault()", x.fault(), Due.NONE);
        Due.is("new far(0, 0)", x.far(0, 0), Due.UNKNOWN);
        Due.is("new street(0, 0)", x.street(0, 0), Due.UNKNOWN);
        Due.is("new cart(0, 0)", x.cart(0, 0), Due.UNKNOWN);
        Due.is("new next(0)", x.next(0), Due.UNKNOWN);
        Due.is("new foremost(0, 0)", x.foremost(0, 0), Due.UNKNOWN);
        Due.is("new minute(1)", x.minute(1), Due.NOT);
        Due.is("new drift(1)", x.drift(1), Due.NOT);
        Due.is("new turn(0)", x.turn(0), Due.UNKNOWN);
        Due.is("new law(0, 0)", x.law(0, 0), Due.UNKNOWN);
        Due.is("new rank(0, 1)", x.rank(0, 1), Due.UNKNOWN);
        Due.is("new allHome(300, 1)", x.allHome(300, 1), 0);
        Due.is("new foreseen(0, 0, 0)", x.foreseen(0, 0, 0), Due.UNKNOWN);
        Due.is("new bought(0, 0, 0, 0)", x.bought(0, 0, 0, 0), Due.UNKNOWN);
        Due.is("new ranks(1, -1)", x.ranks(1, -1), 0);
        Due.is("new ranks(1, 0)", x.ranks(1, 0), Due.UNKNOWN);
        Due.is("new bestLaw(1, -1)", x.bestLaw(1, -1), 0);
        Due.is("new bestLaw(1, 0)", x.bestLaw(1, 0), Due.UNKNOWN);
        Due.is("new lost()", x.lost(), 0);
        Due.is("new costs(0, 1)", x.costs(0, 1), Due.UNKNOWN);
        Due.is("new decree(1)", x.decree(1), Due.NONE);
        Due.is("new rut(0, 0, 0)", x.rut(0, 0, 0), Due.UNKNOWN);
        Due.is("new laws(0)", x.laws(0), Due.UNKNOWN);
        Due.is("new write(0, 0)", x.write(0, 0), Due.UNKNOWN);
        Due.is("new tear()", x.tear(), 0);
        Due.is("new judge()", x.judge(), Due.NONE);
        Due.is("new goBack(0)", x.goBack(0), Due.NOT);
        Due.is("new keep(0)", x.keep(0), 1);
        Due.is("new goBack(0) of what was kept", x.goBack(0), 1);
        Due.is("new seed(5)", x.seed(5), 0);
        Due.is("new city()", x.city(), 0);
    }

    private static void feeding() {
        DecreedStreets x = new DecreedStreets();
        Due.is("feed(-1)", x.feed(-1), Due.OUTSIDE);
        Due.is("feed(256)", x.feed(256), Due.OUTSIDE);
        Due.is("feed(0)", x.feed(0), 1);
        Due.is("feed(255)", x.feed(255), 2);
        for (int i = 3; i <= 250; i++) {
            Due.is("feed " + i, x.feed(32), i);
        }
        Due.is("feed 251", x.feed(32), Due.FULL);
        Due.is("feed 251, outside", x.feed(256), Due.OUTSIDE);
        Due.is("told(4)", x.told(4), 250);
        Due.is("city()", x.city(), -11);
        Due.is("told(4) behind city", x.told(4), 0);
        Due.is("feed behind city", x.feed(32), 1);
    }

    private static void whatStands() {
        reads("c2 1;", 2);
        reads("c7 60;", 7);
        reads("  c  7   60  ;  ", 7);
        reads("c 002 001;", 2);
        reads("c3 5;s0 1 9 4;s1 2 1 0;k0 2 200 9 99;k2 0 0 1 0;", 3);
        reads("c3 5 ; k 0 2 0 1 0 ; s 0 1 1 0 ;", 3);
        reads("c2 1;k000 001 000 009 099;", 2);
        reads("", 0);
        reads("   ", 0);
    }

    private static void faults() {
        fails("x", 1, 0);
        fails(";", 1, 0);
        fails("5", 1, 0);
        fails("k0 1 0 1 1;", 1, 0);
        fails("  s", 1, 2);
        fails("C2 1;", 1, 0);
        fails("c", 1, 1);
        fails("c ", 1, 2);
        fails("c2", 1, 2);
        fails("c2 1", 1, 4);
        fails("c2 1  ", 1, 6);
        fails("c2;", 1, 2);
        fails("c-2 1;", 1, 1);
        fails("c2,1;", 1, 2);
        fails("c2 1 3;", 1, 5);
        fails("c2 1;;", 1, 5);
        fails("c2 1;x", 1, 5);
        fails("c2 1;0", 1, 5);
        fails("c2 1;s", 1, 6);
        fails("c2 1;s0 1 1;", 1, 11);
        fails("c2 1;s0 1 1 0", 1, 13);
        fails("c2 1;k0 1 0 1 1 1;", 1, 16);
        fails("c2 \t1;", 1, 3);
        fails("c1 1;", 2, 1);
        fails("c8 1;", 2, 1);
        fails("c2 61;", 2, 3);
        fails("c2 0;", 2, 3);
        fails("c21;", 2, 1);
        fails("c0002 1;", 2, 1);
        fails("c2 0001;", 2, 3);
        fails("c2 12345678901234567890;", 2, 3);
        fails("c3 1;s3 0 1 0;", 2, 6);
        fails("c3 1;s0 3 1 0;", 2, 8);
        fails("c3 1;s0 1 0 0;", 2, 10);
        fails("c3 1;s0 1 10 0;", 2, 10);
        fails("c3 1;s0 1 1 5;", 2, 12);
        fails("c3 1;k3 0 0 1 0;", 2, 6);
        fails("c3 1;k0 3 0 1 0;", 2, 8);
        fails("c3 1;k0 1 201 1 0;", 2, 10);
        fails("c3 1;k0 1 0 0 0;", 2, 12);
        fails("c3 1;k0 1 0 10 0;", 2, 12);
        fails("c3 1;k0 1 0 1 100;", 2, 14);
        fails("c2 1;c2 1;", 3, 5);
        fails("c2 1; c", 3, 6);
        fails("c3 1;s1 1 1 0;", 4, 8);
        fails("c3 1;k2  002 1 1 0;", 4, 9);
    }

    private static void faultOrder() {
        fails("c8", 2, 1);
        fails("c9x", 2, 1);
        fails("c2 c", 1, 3);
        fails("c2 1 1234;", 1, 5);
        fails("c3 1;s0 0000 1 0;", 2, 8);
        fails("c3 1;s3 3 1 0;", 2, 6);
        fails("c3 1;s0 0 99 9x", 4, 8);
        fails("c3 1;s0 1 99 9x", 2, 10);
    }

    private static void mostOfAll() {
        StringBuilder text = new StringBuilder("c2 1;");
        for (int i = 0; i < 9; i++) {
            text.append("s0 1 1 0;");
        }
        reads(text.toString(), 2);
        fails(text + "s", 3, text.length());
        fails(text + "t", 1, text.length());
        for (int i = 0; i < 6; i++) {
            text.append("k0 1 0 1 0;");
        }
        reads(text.toString(), 2);
        fails(text + " k0 1 0 1 0;", 3, text.length() + 1);
        fails(text + "s0 1 1 0;", 3, text.length());
    }

    private static void whatCityChanges() {
        DecreedStreets x = Due.of("c3 5;s0 1 2 0;k0 1 0 1 9;");
        x.minute(7);
        x.turn(0);
        x.law(0, 4);
        x.rank(0, 9);
        x.rut(0, 3, 1);
        x.write(0, 2);
        x.seed(77);
        x.keep(0);
        x.keep(1);
        Due.feedAll(x, "c2 9;s1 0 3 2;k0 1 4 5 6;");
        Due.is("city() again", x.city(), 2);
        Due.is("told(3)", x.told(3), 9);
        Due.is("told(5)", x.told(5), 0);
        Due.is("told(6)", x.told(6), 0);
        Due.is("told(10)", x.told(10), 0);
        Due.is("told(11)", x.told(11), 0);
        Due.is("street(0, 0)", x.street(0, 0), 1);
        Due.is("street(0, 3)", x.street(0, 3), 2);
        Due.is("street(0, 4)", x.street(0, 4), 0);
        Due.is("cart(0, 3)", x.cart(0, 3), 5);
        Due.is("cart(0, 5)", x.cart(0, 5), 0);
        Due.is("goBack(0): images are gone", x.goBack(0), Due.NOT);
        Due.is("goBack(1): images are gone", x.goBack(1), Due.NOT);
        Due.is("seed stays", x.seed(0), 77);
        Due.is("city() of nothing", x.city(), 0);
        Due.is("told(0)", x.told(0), 0);
        Due.is("told(1)", x.told(1), 0);
        Due.is("told(2)", x.told(2), 0);
        Due.is("told(3)", x.told(3), 0);
        Due.is("minute(1)", x.minute(1), Due.NOT);
    }

    private static void whatAFaultLeaves() {
        DecreedStreets x = Due.of("c3 5;s0 1 2 0;k0 1 0 1 9;");
        x.minute(1);
        x.rut(0, 3, 1);
        x.write(0, 2);
        x.keep(0);
        Due.feedAll(x, "c2 9;s1 0 3 2;k0 1 4 5 600;");
        Due.is("city() with a fault", x.city(), -12);
        Due.is("fault()", x.fault(), 23);
        Due.is("fault() again", x.fault(), 23);
        Due.is("told(0)", x.told(0), 3);
        Due.is("told(3)", x.told(3), 5);
        Due.is("told(4)", x.told(4), 0);
        Due.is("told(5)", x.told(5), 1);
        Due.is("told(10)", x.told(10), 1);
        Due.is("told(11)", x.told(11), 1);
        Due.is("street(0, 2)", x.street(0, 2), 2);
        Due.is("street(0, 5)", x.street(0, 5), 1);
        Due.is("minute(5)", x.minute(5), 1);
        Due.is("goBack(0)", x.goBack(0), 1);
        Due.is("city() of nothing", x.city(), 0);
        Due.is("fault() of the latest", x.fault(), Due.NONE);
    }

    /** A text ends where it ends, whatever stood behind that in the text of an earlier city. */
    private static void lettersOfAnEarlierText() {
        endsAfter("c2 1;", "c2 1", 4);
        endsAfter("c2 12;", "c2 1", 4);
        endsAfter("c2 1 ;", "c2 1", 4);
        endsAfter("c2 1;", "c2", 2);
        endsAfter("c2 1;", "c", 1);
        endsAfter("c2 1;s0 1 1 0;", "c2 1;s", 6);
        endsAfter("c2 1;s0 1 1 0;", "c2 1;s0 1 1 ", 12);
        DecreedStreets x = Due.of("c2 1;s0 1 1 0;");
        Due.feedAll(x, "c2 1;");
        Due.is("city()", x.city(), 2);
        Due.is("told(1)", x.told(1), 0);
    }

    private static void endsAfter(String earlier, String text, int letter) {
        DecreedStreets x = Due.of(earlier);
        Due.feedAll(x, text);
        Due.is("city() of '" + text + "' after '" + earlier + "'", x.city(), -11);
        Due.is("fault() of '" + text + "' after '" + earlier + "'", x.fault(), letter);
    }

    private static void reads(String text, int corners) {
        DecreedStreets x = new DecreedStreets();
        Due.feedAll(x, text);
        Due.is("city() of '" + text + "'", x.city(), corners);
        Due.is("fault() of '" + text + "'", x.fault(), Due.NONE);
        Due.is("told(0) of '" + text + "'", x.told(0), corners);
        Due.is("told(4) of '" + text + "'", x.told(4), 0);
    }

    private static void fails(String text, int number, int letter) {
        DecreedStreets x = new DecreedStreets();
        Due.feedAll(x, text);
        Due.is("city() of '" + text + "'", x.city(), -10 - number);
        Due.is("fault() of '" + text + "'", x.fault(), letter);
        Due.is("told(0) of '" + text + "'", x.told(0), 0);
        Due.is("told(4) of '" + text + "'", x.told(4), 0);
    }
}
