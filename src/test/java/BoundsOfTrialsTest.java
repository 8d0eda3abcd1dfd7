/** The boundary cases that promises 16 to 31 name: every refusal, every bound on both of its sides, every NONE. */
public final class BoundsOfTrialsTest {
    public static void main(String[] args) {
        nOfOneToThreeHundred();
        allHome();
        foreseen();
        bought();
        ranks();
        ranksBehindWhatIsDone();
        bestLaw();
        lost();
        costs();
        decree();
        rut();
        laws();
        write();
        tear();
        judge();
        seed();
        keep();
        keepAgain();
        goBack();
        goBackAgain();
        Cover.promises(16, 31);
        Due.end();
    }

    private static DecreedStreets some() {
        return Due.of("c3 9;s0 1 2 0;s1 2 2 1;k0 2 0 1 9;k2 0 200 2 9;");
    }

    private static void nOfOneToThreeHundred() {
        Due.saying("part 3", "nothing changes by it. ALL HOME for n minutes (1 .. 300)");
        DecreedStreets x = some();
        int[] bad = {0, -1, 301, 302, Integer.MIN_VALUE, Integer.MAX_VALUE};
        for (int n : bad) {
            nOutside(x, n);
        }
        for (int n : new int[] {1, 300}) {
            Due.is("allHome(" + n + ", 0)", x.allHome(n, 0), n == 1 ? 0 : 2);
            Due.is("ranks(" + n + ", 0)", x.ranks(n, 0), 1);
            Due.is("bestLaw(" + n + ", -1)", x.bestLaw(n, -1), 0);
            Due.is("costs(0, " + n + ")", x.costs(0, n), 0);
            Due.is("decree(" + n + ")", x.decree(n), Due.NONE);
        }
    }

    private static void nOutside(DecreedStreets x, int n) {
        Due.is("allHome(" + n + ", 0)", x.allHome(n, 0), Due.OUTSIDE);
        Due.is("allHome(" + n + ", 1)", x.allHome(n, 1), Due.OUTSIDE);
        Due.is("ranks(" + n + ", -1)", x.ranks(n, -1), Due.OUTSIDE);
        Due.is("ranks(" + n + ", 1)", x.ranks(n, 1), Due.OUTSIDE);
        Due.is("bestLaw(" + n + ", -1)", x.bestLaw(n, -1), Due.OUTSIDE);
        Due.is("bestLaw(" + n + ", 1)", x.bestLaw(n, 1), Due.OUTSIDE);
        Due.is("costs(1, " + n + ")", x.costs(1, n), Due.OUTSIDE);
        Due.is("decree(" + n + ")", x.decree(n), Due.OUTSIDE);
    }

    private static void allHome() {
        Due.saying("Promise 16", "ALL HOME: what = 0 how many, 1 minutes together. OUTSIDE.");
        DecreedStreets x = some();
        Due.is("allHome(4, 0)", x.allHome(4, 0), 0);
        Due.is("allHome(4, 1)", x.allHome(4, 1), 4 + 4);
        Due.is("allHome(5, 0)", x.allHome(5, 0), 1);
        Due.is("allHome(5, 1)", x.allHome(5, 1), 4 + 5);
        Due.is("allHome(5, -1)", x.allHome(5, -1), Due.OUTSIDE);
        Due.is("allHome(5, 2)", x.allHome(5, 2), Due.OUTSIDE);
        Due.is("allHome(0, 2)", x.allHome(0, 2), Due.OUTSIDE);
        Due.is("allHome(301, 0)", x.allHome(301, 0), Due.OUTSIDE);
        Due.is("allHome(300, 0)", x.allHome(300, 0), 2);
        Due.is("without CORNERS", new DecreedStreets().allHome(1, 1), 0);
        for (int far : Due.FAR_OFF) {
            Due.is("allHome(5, " + far + ")", x.allHome(5, far), Due.OUTSIDE);
        }
    }

    private static void foreseen() {
        Due.saying("Promise 17", "FORESEEN: the minute; NONE. UNKNOWN, OUTSIDE.");
        DecreedStreets x = some();
        Due.is("foreseen(0, 1, 0)", x.foreseen(0, 1, 0), 2);
        Due.is("foreseen(1, 0, 999)", x.foreseen(1, 0, 999), 1001);
        Due.is("foreseen(0, 1, -1)", x.foreseen(0, 1, -1), Due.OUTSIDE);
        Due.is("foreseen(0, 1, 1000)", x.foreseen(0, 1, 1000), Due.OUTSIDE);
        Due.is("foreseen(3, 1, 0)", x.foreseen(3, 1, 0), Due.UNKNOWN);
        Due.is("foreseen(0, 3, 0)", x.foreseen(0, 3, 0), Due.UNKNOWN);
        Due.is("foreseen(-1, 1, 0)", x.foreseen(-1, 1, 0), Due.UNKNOWN);
        Due.is("foreseen(0, -1, 0)", x.foreseen(0, -1, 0), Due.UNKNOWN);
        Due.is("foreseen(0, 3, 1000)", x.foreseen(0, 3, 1000), Due.UNKNOWN);
        Due.is("no way", Due.of("c2 1;").foreseen(0, 1, 0), Due.NONE);
        for (int far : Due.FAR_OFF) {
            if (far != 256) {
                Due.is("foreseen(0, 1, " + far + ")", x.foreseen(0, 1, far), Due.OUTSIDE);
            }
        }
    }

    private static void bought() {
        Due.saying("Promise 18", "BOUGHT; NONE. UNKNOWN, OUTSIDE.");
        DecreedStreets x = some();
        Due.is("bought(2, 1, 0, 2)", x.bought(2, 1, 0, 2), 1);
        Due.is("bought(2, 1, 999, 300)", x.bought(2, 1, 999, 300), 0);
        Due.is("bought(2, 1, 0, 1)", x.bought(2, 1, 0, 1), Due.NONE);
        Due.is("bought(2, 2, 0, 0)", x.bought(2, 2, 0, 0), 0);
        Due.is("bought(2, 1, -1, 2)", x.bought(2, 1, -1, 2), Due.OUTSIDE);
        Due.is("bought(2, 1, 1000, 2)", x.bought(2, 1, 1000, 2), Due.OUTSIDE);
        Due.is("bought(2, 1, 0, -1)", x.bought(2, 1, 0, -1), Due.OUTSIDE);
        Due.is("bought(2, 1, 0, 301)", x.bought(2, 1, 0, 301), Due.OUTSIDE);
        Due.is("bought(3, 1, 0, 2)", x.bought(3, 1, 0, 2), Due.UNKNOWN);
        Due.is("bought(2, 3, 0, 2)", x.bought(2, 3, 0, 2), Due.UNKNOWN);
        Due.is("bought(-1, 1, 0, 2)", x.bought(-1, 1, 0, 2), Due.UNKNOWN);
        Due.is("bought(2, -1, 0, 2)", x.bought(2, -1, 0, 2), Due.UNKNOWN);
        Due.is("bought(2, 3, 1000, 301)", x.bought(2, 3, 1000, 301), Due.UNKNOWN);
        for (int far : Due.FAR_OFF) {
            if (far != 256) {
                Due.is("bought(2, 1, " + far + ", 2)", x.bought(2, 1, far, 2), Due.OUTSIDE);
                Due.is("bought(2, 1, 0, " + far + ")", x.bought(2, 1, 0, far), Due.OUTSIDE);
            }
        }
    }

    private static void ranks() {
        Due.saying("Promise 19", "RANKS: k = NONE minutes together, else the RANK of a CART. UNKNOWN, OUTSIDE.");
        DecreedStreets x = Due.of("c2 9;s0 1 2 4;k0 1 0 9 9;k0 1 0 1 0;");
        Due.is("ranks(20, -1)", x.ranks(20, -1), 2 + 3);
        Due.is("ranks(20, 0)", x.ranks(20, 0), 1);
        Due.is("ranks(20, 1)", x.ranks(20, 1), 9);
        Due.is("ranks(20, 2)", x.ranks(20, 2), Due.UNKNOWN);
        Due.is("ranks(20, -2)", x.ranks(20, -2), Due.UNKNOWN);
        Due.is("ranks(0, 1)", x.ranks(0, 1), Due.OUTSIDE);
        Due.is("ranks(301, -1)", x.ranks(301, -1), Due.OUTSIDE);
        Due.is("ranks(1, -1)", x.ranks(1, -1), 2);
        Due.is("ranks(300, -1)", x.ranks(300, -1), 5);
        Due.is("ranks(0, 2)", x.ranks(0, 2), Due.UNKNOWN);
        Due.is("cart(0, 3): nothing changes", x.cart(0, 3), 9);
        x = new DecreedStreets();
        Due.is("ranks(1, -1) without carts", x.ranks(1, -1), 0);
        Due.is("ranks(1, 0) without carts", x.ranks(1, 0), Due.UNKNOWN);
    }

    private static void ranksBehindWhatIsDone() {
        Due.saying("Promise 19", "RANKS: k = NONE minutes together");
        DecreedStreets x = Due.of("c2 9;s0 1 2 0;k0 1 1 9 9;k1 0 1 1 0;");
        Due.is("LAW 0: from A", x.ranks(20, -1), 3 + 20);
        x.law(0, 3);
        Due.is("LAW 3: who has no PATIENCE first", x.ranks(20, -1), 5 + 3);
        Due.is("LAW 3: his RANK", x.ranks(20, 1), 9);
        x.rank(0, 1);
        Due.is("like RANKS: as it GOES", x.ranks(20, -1), 3 + 20);
        x.turn(0);
        Due.is("like RANKS, turned", x.ranks(20, -1), 5 + 3);
        x.keep(0);
        x.minute(2);
        Due.is("two minutes later", x.ranks(20, -1), 5 + 3);
        Due.is("for another n", x.ranks(1, -1), 3 + 3);
        x.goBack(0);
        Due.is("for that n, gone back", x.ranks(1, -1), 2);
        x.drift(2);
        Due.is("for that n, by draws", x.ranks(1, -1), 3 + 3);
        x.minute(5);
        Due.is("for that n, seven minutes later", x.ranks(1, -1), 5 + 3);
        x.minute(1);
        Due.is("for that n, a minute later", x.ranks(1, -1), 5 + 3);
        Due.feedAll(x, "c2 9;k0 1 0 4 0;");
        x.city();
        Due.is("another city", x.ranks(1, 0), 4);
        Due.is("another city, together", x.ranks(1, -1), 1);
        x.minute(1);
        Due.is("a minute later: he is at THE INN", x.ranks(1, -1), 2);
    }

    private static void bestLaw() {
        Due.saying("Promise 20", "BEST LAW: s = NONE for all STREETS, else for one. UNKNOWN, OUTSIDE.");
        DecreedStreets x = Due.of("c3 5;s0 1 9 4;s1 2 1 0;k1 0 0 9 0;k0 1 0 1 99;k1 2 0 1 99;");
        Due.is("bestLaw(60, -1)", x.bestLaw(60, -1), 3);
        Due.is("bestLaw(60, 0)", x.bestLaw(60, 0), 3);
        Due.is("bestLaw(60, 1)", x.bestLaw(60, 1), 0);
        Due.is("bestLaw(60, 2)", x.bestLaw(60, 2), Due.UNKNOWN);
        Due.is("bestLaw(60, -2)", x.bestLaw(60, -2), Due.UNKNOWN);
        Due.is("bestLaw(0, 1)", x.bestLaw(0, 1), Due.OUTSIDE);
        Due.is("bestLaw(301, -1)", x.bestLaw(301, -1), Due.OUTSIDE);
        Due.is("bestLaw(1, -1)", x.bestLaw(1, -1), 0);
        Due.is("bestLaw(300, -1)", x.bestLaw(300, -1), 3);
        Due.is("bestLaw(0, 2)", x.bestLaw(0, 2), Due.UNKNOWN);
        Due.is("bestLaw(1, 0) without streets", Due.of("c2 1;").bestLaw(1, 0), Due.UNKNOWN);
        x = Due.of("c2 60;s0 1 1 4;k0 1 0 1 0;");
        for (int w = 0; w <= 4; w++) {
            x.law(0, w);
            Due.is("all are alike, whatever it is now: " + w, x.bestLaw(9, 0), 0);
        }
    }

    private static void lost() {
        Due.saying("Promise 21", "LOST.");
        DecreedStreets x = Due.of("c4 60;s1 2 9 1;s3 2 9 1;k1 3 200 1 99;k1 3 200 1 90;k1 3 200 1 0;k1 2 0 1 0;");
        Due.is("WAITS 40 and from 249 on 51; INN at 299; INN at 200; HOME at 9", x.lost(), 1);
        x.minute(1);
        Due.is("behind minute 300 he is ON it", x.lost(), 1);
        x.minute(8);
        Due.is("behind minute 308, too", x.lost(), 1);
        x.minute(1);
        Due.is("behind minute 309 he is HOME", x.lost(), 0);
        x = Due.of("c4 60;s1 2 9 1;s3 2 9 1;k1 3 200 1 99;k1 3 200 1 91;");
        Due.is("the second WAITS, too", x.lost(), 3);
        Due.is("without CORNERS", new DecreedStreets().lost(), 0);
    }

    private static void costs() {
        Due.saying("Promise 22", "COSTS (may be below 0). UNKNOWN, OUTSIDE, NOT: he has STARTED.");
        DecreedStreets x = Due.of("c2 60;s0 1 9 2;k0 1 1 1 99;k1 0 1 1 99;k1 0 1 9 0;");
        Due.is("costs(1, 60)", x.costs(1, 60), (20 + 10) - (10 + 60));
        Due.is("costs(3, 60)", x.costs(3, 60), Due.UNKNOWN);
        Due.is("costs(-1, 60)", x.costs(-1, 60), Due.UNKNOWN);
        Due.is("costs(0, 0)", x.costs(0, 0), Due.OUTSIDE);
        Due.is("costs(0, 301)", x.costs(0, 301), Due.OUTSIDE);
        Due.is("costs(3, 0)", x.costs(3, 0), Due.UNKNOWN);
        x.minute(1);
        Due.is("costs(1, 59): not STARTED yet", x.costs(1, 59), (20 + 10) - (10 + 60));
        x.minute(1);
        for (int k = 0; k < 3; k++) {
            Due.is("costs(" + k + ", 60)", x.costs(k, 60), Due.NOT);
            Due.is("costs(" + k + ", 301)", x.costs(k, 301), Due.OUTSIDE);
        }
    }

    private static void decree() {
        Due.saying("Promise 23", "DECREE; NONE. OUTSIDE.");
        DecreedStreets x = Due.of("c2 9;s0 1 9 3;s0 1 9 2;k0 1 0 1 99;k1 0 0 1 3;");
        Due.is("decree(19)", x.decree(19), 0);
        Due.is("decree(18)", x.decree(18), Due.NONE);
        Due.is("decree(0)", x.decree(0), Due.OUTSIDE);
        Due.is("decree(301)", x.decree(301), Due.OUTSIDE);
        Due.is("decree(1)", x.decree(1), Due.NONE);
        Due.is("decree(300)", x.decree(300), 0);
        Due.is("street(0, 4): nothing changes", x.street(0, 4), 0);
        Due.is("without CORNERS", new DecreedStreets().decree(300), Due.NONE);
        x = Due.of("c2 9;s1 0 9 2;k0 1 0 1 99;k1 0 0 1 3;");
        Due.is("none is better", x.decree(60), Due.NONE);
        x.turn(0);
        Due.is("one that was turned, turned back", x.decree(60), 0);
        x = Due.of("c2 9;" + "s0 1 9 4;".repeat(8) + "s1 0 8 2;k1 0 0 1 99;k0 1 0 1 3;");
        Due.is("the last of nine", x.decree(60), 8);
    }

    private static void rut() {
        Due.saying("Promise 24", "A RUT: how many. UNKNOWN, OUTSIDE (t, way 0, 1), FULL (8).");
        DecreedStreets x = some();
        Due.is("rut(0, -1, 0)", x.rut(0, -1, 0), Due.OUTSIDE);
        Due.is("rut(0, 100, 0)", x.rut(0, 100, 0), Due.OUTSIDE);
        Due.is("rut(0, 0, -1)", x.rut(0, 0, -1), Due.OUTSIDE);
        Due.is("rut(0, 0, 2)", x.rut(0, 0, 2), Due.OUTSIDE);
        Due.is("rut(2, 0, 0)", x.rut(2, 0, 0), Due.UNKNOWN);
        Due.is("rut(-1, 0, 0)", x.rut(-1, 0, 0), Due.UNKNOWN);
        for (int far : Due.FAR_OFF) {
            Due.is("rut(0, " + far + ", 0)", x.rut(0, far, 0), Due.OUTSIDE);
            Due.is("rut(0, 0, " + far + ")", x.rut(0, 0, far), Due.OUTSIDE);
        }
        Due.is("rut(0, 0, 0)", x.rut(0, 0, 0), 1);
        Due.is("rut(1, 99, 1)", x.rut(1, 99, 1), 2);
        for (int i = 3; i <= 8; i++) {
            Due.is("the same again, " + i, x.rut(1, 99, 1), i);
        }
        Due.is("the ninth", x.rut(0, 0, 0), Due.FULL);
        Due.is("told(10)", x.told(10), 8);
        x.tear();
        Due.is("behind tear", x.rut(0, 0, 0), 1);
    }

    private static void laws() {
        Due.saying("Promise 25", "LAWS. UNKNOWN.");
        DecreedStreets x = some();
        Due.is("laws(0)", x.laws(0), 31);
        Due.is("laws(1)", x.laws(1), 31);
        Due.is("laws(2)", x.laws(2), Due.UNKNOWN);
        Due.is("laws(-1)", x.laws(-1), Due.UNKNOWN);
        x.rut(1, 0, 1);
        Due.is("laws(1): none", x.laws(1), 0);
        Due.is("laws(0): all", x.laws(0), 31);
        Due.is("without streets", Due.of("c2 1;").laws(0), Due.UNKNOWN);
    }

    private static void write() {
        Due.saying("Promise 26", "An entry behind THE RECORD (a minute 0 .. 99999): how many. UNKNOWN, OUTSIDE, FULL (15).");
        DecreedStreets x = some();
        Due.is("write(0, -1)", x.write(0, -1), Due.OUTSIDE);
        Due.is("write(0, 100000)", x.write(0, 100000), Due.OUTSIDE);
        Due.is("write(2, 0)", x.write(2, 0), Due.UNKNOWN);
        Due.is("write(-1, 0)", x.write(-1, 0), Due.UNKNOWN);
        for (int far : new int[] {Integer.MIN_VALUE, -65536, 1 << 20, Integer.MAX_VALUE}) {
            Due.is("write(0, " + far + ")", x.write(0, far), Due.OUTSIDE);
        }
        Due.is("write(0, 0)", x.write(0, 0), 1);
        Due.is("write(1, 99999)", x.write(1, 99999), 2);
        for (int i = 3; i <= 15; i++) {
            Due.is("the same again, " + i, x.write(1, 99999), i);
        }
        Due.is("the sixteenth", x.write(0, 0), Due.FULL);
        Due.is("told(11)", x.told(11), 15);
        x.tear();
        Due.is("behind tear", x.write(0, 0), 1);
    }

    private static void tear() {
        Due.saying("Promise 27", "No RUTS, THE RECORD is empty: how many both had.");
        DecreedStreets x = some();
        Due.is("none", x.tear(), 0);
        x.rut(0, 0, 1);
        Due.is("one RUT", x.tear(), 1);
        Due.is("told(10)", x.told(10), 0);
        x.write(0, 0);
        Due.is("one entry", x.tear(), 1);
        Due.is("told(11)", x.told(11), 0);
        for (int i = 0; i < 20; i++) {
            x.rut(0, 0, 1);
            x.write(0, 0);
        }
        Due.is("eight and fifteen", x.tear(), 23);
        Due.is("told(10), all torn", x.told(10), 0);
        Due.is("told(11), all torn", x.told(11), 0);
        Due.is("laws(0)", x.laws(0), 31);
        Due.is("judge()", x.judge(), Due.NONE);
        Due.is("none again", x.tear(), 0);
        Due.is("without CORNERS", new DecreedStreets().tear(), 0);
    }

    private static void judge() {
        Due.saying("Promise 28", "WRONG; NONE.");
        DecreedStreets x = Due.of("c2 60;s0 1 9 4;k0 1 0 1 0;");
        Due.is("an empty RECORD", x.judge(), Due.NONE);
        x.write(0, 9);
        Due.is("not HOME", x.judge(), 0);
        x.minute(9);
        Due.is("ON it still", x.judge(), 0);
        x.keep(0);
        x.minute(1);
        Due.is("HOME at 9", x.judge(), Due.NONE);
        x.goBack(0);
        Due.is("gone back: not so now", x.judge(), 0);
        x.minute(1);
        x.write(0, 0);
        Due.is("the second", x.judge(), 1);
        Due.is("without CORNERS", new DecreedStreets().judge(), Due.NONE);
    }

    private static void seed() {
        Due.saying("Promise 29", "THE SEED becomes v (0 .. 2147483647): what it was. OUTSIDE.");
        DecreedStreets x = new DecreedStreets();
        Due.is("0 at first", x.seed(0), 0);
        Due.is("seed(2147483647)", x.seed(2147483647), 0);
        Due.is("seed(-1)", x.seed(-1), Due.OUTSIDE);
        Due.is("seed(least)", x.seed(Integer.MIN_VALUE), Due.OUTSIDE);
        Due.is("seed(0)", x.seed(0), 2147483647);
        Due.is("seed(1)", x.seed(1), 0);
        Due.is("seed(2147483646)", x.seed(2147483646), 1);
        Due.is("seed(5)", x.seed(5), 2147483646);
    }

    private static void keep() {
        Due.saying("Promise 30", "IMAGE i becomes what is so: 1. UNKNOWN.");
        DecreedStreets x = new DecreedStreets();
        Due.is("keep(-1)", x.keep(-1), Due.UNKNOWN);
        Due.is("keep(2)", x.keep(2), Due.UNKNOWN);
        Due.is("keep(0) without CORNERS", x.keep(0), 1);
        Due.is("keep(1) without CORNERS", x.keep(1), 1);
        Due.is("goBack(1)", x.goBack(1), 1);
        for (int far : Due.FAR_OFF) {
            Due.is("keep(" + far + ")", x.keep(far), Due.UNKNOWN);
        }
    }

    private static void keepAgain() {
        Due.saying("Promise 30", "IMAGE i becomes what is so: 1.");
        DecreedStreets x = some();
        x.keep(0);
        x.minute(1);
        x.keep(1);
        x.minute(1);
        Due.is("keep(0) again", x.keep(0), 1);
        x.minute(1);
        x.goBack(0);
        Due.is("the later one", x.told(5), 2);
        x.goBack(1);
        Due.is("the other one", x.told(5), 1);
        x.minute(7);
        x.goBack(1);
        Due.is("what is so has no hold on it", x.told(5), 1);
        Due.is("who is ON street 0", x.street(0, 5), 1);
    }

    private static void goBack() {
        Due.saying("Promise 31", "What is so becomes IMAGE i: 1. UNKNOWN, NOT: it was not kept.");
        DecreedStreets x = some();
        Due.is("goBack(0)", x.goBack(0), Due.NOT);
        Due.is("goBack(1)", x.goBack(1), Due.NOT);
        Due.is("goBack(-1)", x.goBack(-1), Due.UNKNOWN);
        Due.is("goBack(2)", x.goBack(2), Due.UNKNOWN);
        x.keep(1);
        Due.is("goBack(0), 1 was kept", x.goBack(0), Due.NOT);
        x.minute(3);
        Due.is("goBack(1), kept", x.goBack(1), 1);
        Due.is("told(5)", x.told(5), 0);
        Due.is("cart(0, 5)", x.cart(0, 5), 0);
        for (int far : Due.FAR_OFF) {
            Due.is("goBack(" + far + ")", x.goBack(far), Due.UNKNOWN);
        }
        x.city();
        Due.is("goBack(1), IMAGES are gone", x.goBack(1), Due.NOT);
    }

    private static void goBackAgain() {
        Due.saying("Promise 31", "What is so becomes IMAGE i: 1.");
        DecreedStreets x = some();
        x.minute(2);
        x.keep(0);
        for (int i = 0; i < 3; i++) {
            x.drift(20);
            x.law(0, 4);
            x.rank(0, 9);
            x.seed(99);
            Due.is("goBack(0)", x.goBack(0), 1);
            Due.is("told(5)", x.told(5), 2);
            Due.is("street(0, 3)", x.street(0, 3), 0);
            Due.is("cart(0, 3)", x.cart(0, 3), 1);
            Due.is("seed(0)", x.seed(0), 0);
        }
        x.keep(1);
        x.minute(5);
        Due.is("goBack(1) to the same", x.goBack(1), 1);
        Due.is("told(5)", x.told(5), 2);
    }
}
