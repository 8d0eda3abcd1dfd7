/** Promises 11 to 15: minute, drift, turn, law, rank; and the laws by which streets turn. */
public final class MinutesTest {
    public static void main(String[] args) {
        refusedMinutes();
        homeInThem();
        manyMinutesAreLikeSingleOnes();
        whoeverCameAhead();
        theHour();
        howManyWait();
        byRank();
        never();
        oneBehindTheOther();
        givingUp();
        byDraws();
        fullOfMinutes();
        turning();
        lawsByHand();
        ranksByHand();
        Due.end();
    }

    private static void refusedMinutes() {
        DecreedStreets x = new DecreedStreets();
        Due.is("minute(0) without corners", x.minute(0), Due.OUTSIDE);
        Due.is("minute(300) without corners", x.minute(300), Due.NOT);
        Due.is("drift(301) without corners", x.drift(301), Due.OUTSIDE);
        Due.is("drift(300) without corners", x.drift(300), Due.NOT);
        x = Due.of("c2 1;");
        Due.is("minute(0)", x.minute(0), Due.OUTSIDE);
        Due.is("minute(-1)", x.minute(-1), Due.OUTSIDE);
        Due.is("minute(301)", x.minute(301), Due.OUTSIDE);
        Due.is("drift(0)", x.drift(0), Due.OUTSIDE);
        Due.is("drift(-1)", x.drift(-1), Due.OUTSIDE);
        Due.is("drift(301)", x.drift(301), Due.OUTSIDE);
        Due.is("told(5)", x.told(5), 0);
        Due.is("minute(1)", x.minute(1), 0);
        Due.is("minute(300)", x.minute(300), 0);
        Due.is("drift(1)", x.drift(1), 0);
        Due.is("drift(300)", x.drift(300), 0);
        Due.is("told(5)", x.told(5), 602);
    }

    private static void homeInThem() {
        DecreedStreets x = Due.of("c2 1;s0 1 3 0;k0 1 0 1 9;k0 1 0 1 9;k0 1 20 1 9;");
        Due.is("minute(3): on their way", x.minute(3), 0);
        Due.is("minute(1): the first", x.minute(1), 1);
        Due.is("minute(19): the second", x.minute(19), 1);
        Due.is("told(5)", x.told(5), 23);
        Due.is("minute(300): the third", x.minute(300), 1);
        Due.is("cart(2, 7)", x.cart(2, 7), 23);
        Due.is("minute(300): nobody more", x.minute(300), 0);
    }

    private static void manyMinutesAreLikeSingleOnes() {
        String text = "c3 4;s0 1 2 1;s1 2 3 4;s2 0 9 2;k0 2 9 1 50;k2 0 30 1 50;";
        for (int n = 1; n <= 60; n++) {
            DecreedStreets atOnce = Due.of(text);
            DecreedStreets oneByOne = Due.of(text);
            atOnce.turn(1);
            oneByOne.turn(1);
            int came = 0;
            for (int i = 0; i < n; i++) {
                came += oneByOne.minute(1);
            }
            Due.is("minute(" + n + ")", atOnce.minute(n), came);
            for (int s = 0; s < 3; s++) {
                Due.is("street(" + s + ", 4) behind " + n, atOnce.street(s, 4), oneByOne.street(s, 4));
                Due.is("street(" + s + ", 5) behind " + n, atOnce.street(s, 5), oneByOne.street(s, 5));
            }
            Due.is("told(9) behind " + n, atOnce.told(9), oneByOne.told(9));
        }
    }

    private static void whoeverCameAhead() {
        DecreedStreets x = Due.of("c2 9;s0 1 2 0;k0 1 1 1 99;k1 0 0 1 99;");
        x.minute(1);
        Due.is("LAW 0: from B, who came ahead", x.street(0, 4), 1);
        x.minute(1);
        Due.is("LAW 0: not while somebody is ON it", x.street(0, 4), 1);
        Due.is("told(8)", x.told(8), 1);
        x.minute(1);
        Due.is("LAW 0: then from A", x.street(0, 4), 0);
        Due.is("LAW 0: on it", x.street(0, 5), 1);
        x.minute(9);
        Due.is("LAW 0: with nobody as it goes", x.street(0, 4), 0);
        x = Due.of("c2 9;s0 1 2 0;k1 0 0 9 99;k0 1 0 1 99;");
        x.minute(1);
        Due.is("LAW 0: of like ones from A, whatever the rank", x.street(0, 5), 2);
    }

    private static void theHour() {
        DecreedStreets x = Due.of("c2 3;s0 1 1 1;");
        for (int t = 0; t < 20; t++) {
            x.minute(1);
            Due.is("LAW 1 behind minute " + t, x.street(0, 4), t / 3 % 2);
        }
        x = Due.of("c2 2;s0 1 5 1;k0 1 0 1 0;k1 0 4 1 99;");
        x.minute(5);
        Due.is("LAW 1: not while somebody is ON it", x.street(0, 4), 0);
        x.minute(1);
        Due.is("LAW 1: 5 / 2 is even", x.street(0, 4), 0);
        x.minute(1);
        Due.is("LAW 1: 6 / 2 is odd", x.street(0, 5), 2);
    }

    private static void howManyWait() {
        DecreedStreets x = Due.of("c2 9;s0 1 2 2;k0 1 0 9 99;k1 0 0 1 99;k1 0 0 2 99;");
        x.minute(1);
        Due.is("LAW 2: from B, where two wait", x.street(0, 4), 1);
        Due.is("LAW 2: the foremost of them", x.street(0, 5), 4);
        x.minute(1);
        Due.is("LAW 2: one behind the other", x.street(0, 5), 6);
        x = Due.of("c2 9;s0 1 2 2;k0 1 0 9 99;k1 0 0 1 99;");
        x.turn(0);
        x.minute(1);
        Due.is("LAW 2: of like many as it goes", x.street(0, 5), 2);
    }

    private static void byRank() {
        DecreedStreets x = Due.of("c2 9;s0 1 2 3;k0 1 0 3 99;k1 0 0 1 99;k1 0 0 4 99;k0 1 0 3 99;");
        x.minute(1);
        Due.is("LAW 3: from B, the greater rank", x.street(0, 5), 4);
        x = Due.of("c2 9;s0 1 2 3;k0 1 0 3 99;k1 0 0 3 99;");
        x.turn(0);
        x.minute(1);
        Due.is("LAW 3: of like ones as it goes", x.street(0, 5), 2);
        x = Due.of("c2 9;s0 1 2 3;k1 0 0 1 99;");
        x.minute(1);
        Due.is("LAW 3: nobody at A", x.street(0, 5), 1);
        x.minute(5);
        Due.is("LAW 3: with nobody as it goes", x.street(0, 4), 1);
    }

    private static void never() {
        DecreedStreets x = Due.of("c2 1;s0 1 2 4;k1 0 0 9 99;");
        x.turn(0);
        x.minute(1);
        Due.is("LAW 4: from A again", x.street(0, 4), 0);
        x.minute(98);
        Due.is("LAW 4: he waits", x.told(8), 1);
        x.minute(1);
        Due.is("LAW 4: the hundredth minute is too many", x.told(7), 1);
        Due.is("cart(0, 7)", x.cart(0, 7), 99);
        Due.is("cart(0, 8)", x.cart(0, 8), 100);
    }

    private static void oneBehindTheOther() {
        DecreedStreets x = Due.of("c3 9;s0 1 4 0;s1 2 1 0;k0 2 0 1 9;k0 2 0 1 9;k0 2 0 5 9;k1 0 1 9 1;");
        x.minute(3);
        Due.is("all three follow", x.street(0, 5), 7);
        Due.is("who waits against them has given up", x.told(7), 8);
        Due.is("minute(3)", x.minute(3), 1);
        Due.is("home first is the greatest rank", x.told(6), 4);
        Due.is("minute(1)", x.minute(1), 1);
        Due.is("then the lesser number", x.told(6), 5);
    }

    private static void givingUp() {
        DecreedStreets x = Due.of("c3 9;s0 1 1 1;k1 0 3 1 0;k1 0 3 1 2;k0 2 5 9 9;");
        x.minute(4);
        Due.is("patience 0", x.told(7), 1);
        x.minute(1);
        Due.is("patience 2, behind two", x.told(7), 1);
        x.minute(1);
        Due.is("behind three; and without a way at once", x.told(7), 7);
        Due.is("cart(2, 8)", x.cart(2, 8), 0);
        Due.is("cart(2, 7)", x.cart(2, 7), 5);
        Due.is("told(9)", x.told(9), 4);
    }

    private static void byDraws() {
        DecreedStreets x = Due.of("c2 9;s0 1 9 0;s0 1 9 2;s0 1 9 3;k0 1 3 1 9;");
        long seed = 0;
        int[] goes = new int[3];
        for (int t = 0; t < 100; t++) {
            seed = (seed * 1103515245L + 12345L) % (1L << 31);
            boolean turns = seed / 65536 % 4 == 0;
            if (turns) {
                seed = (seed * 1103515245L + 12345L) % (1L << 31);
                int s = (int) (seed / 65536 % 3);
                boolean isTaken = s == 0 && t > 3 && t < 13;
                goes[s] = isTaken ? goes[s] : 1 - goes[s];
            }
            goes[0] = t == 3 ? 0 : goes[0];
            Due.is("drift(1) at " + t, x.drift(1), t == 12 ? 1 : 0);
            for (int s = 0; s < 3; s++) {
                Due.is("street(" + s + ", 4) at " + t, x.street(s, 4), goes[s]);
            }
        }
        Due.is("the seed", x.seed(0), seed);
        x = Due.of("c2 9;");
        x.seed(7);
        x.drift(1);
        Due.is("without streets one draw alone", x.seed(0), (7 * 1103515245L + 12345L) % (1L << 31));
    }

    private static void fullOfMinutes() {
        DecreedStreets x = Due.of("c2 1;");
        for (int i = 0; i < 300; i++) {
            x.minute(300);
        }
        Due.is("told(5)", x.told(5), 90000);
        x.keep(0);
        Due.is("minute(300) at 90000", x.minute(300), 0);
        Due.is("minute(1) above", x.minute(1), Due.FULL);
        Due.is("drift(1) above", x.drift(1), Due.FULL);
        Due.is("minute(0) above", x.minute(0), Due.OUTSIDE);
        Due.is("told(5)", x.told(5), 90300);
        x.goBack(0);
        Due.is("drift(1) at 90000", x.drift(1), 0);
        Due.is("drift(1) at 90001", x.drift(1), Due.FULL);
        Due.is("told(5)", x.told(5), 90001);
    }

    private static void turning() {
        DecreedStreets x = Due.of("c2 9;s0 1 2 0;s0 1 1 4;k0 1 0 1 9;");
        Due.is("turn(0)", x.turn(0), 1);
        Due.is("turn(0) back", x.turn(0), 0);
        Due.is("turn(1) of LAW 4", x.turn(1), 1);
        Due.is("turn(2)", x.turn(2), Due.UNKNOWN);
        Due.is("turn(-1)", x.turn(-1), Due.UNKNOWN);
        x.minute(1);
        Due.is("turn(1) with somebody ON it", x.turn(1), Due.NOT);
        Due.is("street(1, 4)", x.street(1, 4), 0);
        Due.is("turn(0) with nobody", x.turn(0), 1);
    }

    private static void lawsByHand() {
        DecreedStreets x = Due.of("c2 1;s0 1 2 3;");
        Due.is("law(0, 1)", x.law(0, 1), 3);
        Due.is("law(0, 4)", x.law(0, 4), 1);
        Due.is("law(0, 5)", x.law(0, 5), Due.UNKNOWN);
        Due.is("law(0, -1)", x.law(0, -1), Due.UNKNOWN);
        Due.is("law(1, 0)", x.law(1, 0), Due.UNKNOWN);
        Due.is("law(-1, 0)", x.law(-1, 0), Due.UNKNOWN);
        Due.is("law(0, 0)", x.law(0, 0), 4);
        x.law(0, 1);
        x.minute(2);
        Due.is("it turns by its new law", x.street(0, 4), 1);
    }

    private static void ranksByHand() {
        DecreedStreets x = Due.of("c2 1;s0 1 2 0;k0 1 0 3 9;k0 1 0 4 9;");
        Due.is("rank(0, 9)", x.rank(0, 9), 3);
        Due.is("rank(0, 0)", x.rank(0, 0), Due.OUTSIDE);
        Due.is("rank(0, 10)", x.rank(0, 10), Due.OUTSIDE);
        Due.is("rank(2, 10)", x.rank(2, 10), Due.UNKNOWN);
        Due.is("rank(-1, 1)", x.rank(-1, 1), Due.UNKNOWN);
        Due.is("rank(1, 1)", x.rank(1, 1), 4);
        Due.is("rank(1, 1) again", x.rank(1, 1), 1);
        x.minute(1);
        Due.is("who goes first", x.street(0, 5), 1);
    }
}
