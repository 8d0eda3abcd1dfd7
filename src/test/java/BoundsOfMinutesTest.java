/** The boundary cases that part 2 of the document names: far, next, who is foremost, and each step of a minute. */
public final class BoundsOfMinutesTest {
    public static void main(String[] args) {
        atFirst();
        far();
        nextIsTheLeast();
        withoutANext();
        foremost();
        onForItsLength();
        homeOrOn();
        starts();
        onlyWithNobodyOnIt();
        lawZero();
        lawZeroOfLikeOnes();
        lawZeroWithNobody();
        lawOne();
        lawTwo();
        lawTwoOfLikeMany();
        lawThree();
        lawThreeOfLikeOnes();
        lawThreeWithNobodyOnOneSide();
        lawFour();
        lawFourWithSomebodyOnIt();
        theForemostEnters();
        patience();
        patienceOfAllMinutes();
        toll();
        trip();
        Due.end();
    }

    private static void atFirst() {
        Due.saying("part 2", "Each STREET GOES from A to B (0) or from B to A (1); 0 at first.");
        DecreedStreets x = Due.of("c2 1;s0 1 1 0;s1 0 1 1;s0 1 1 2;s1 0 1 3;s0 1 1 4;");
        for (int s = 0; s < 5; s++) {
            Due.is("street(" + s + ", 4) at first", x.street(s, 4), 0);
            Due.is("turn(" + s + ")", x.turn(s), 1);
            Due.is("turn(" + s + ") again", x.turn(s), 0);
        }
    }

    private static void far() {
        Due.saying("part 2", "FAR of a CORNER from another one: the fewest minutes by STREETS, whichever way they GO; NONE.");
        DecreedStreets x = Due.of("c7 1;s0 1 9 4;s1 2 9 4;s2 3 9 4;s3 4 9 4;s4 5 9 4;s5 6 9 4;");
        Due.is("the farthest that can be", x.far(0, 6), 54);
        Due.is("against LAW 4", x.far(6, 0), 54);
        Due.is("itself", x.far(6, 6), 0);
        x = Due.of("c4 1;s0 1 1 0;s0 1 9 0;s2 3 2 0;");
        Due.is("of two streets the shorter", x.far(0, 1), 1);
        Due.is("no way", x.far(0, 2), Due.NONE);
        Due.is("no way back", x.far(3, 1), Due.NONE);
        x = Due.of("c2 1;");
        Due.is("no streets", x.far(0, 1), Due.NONE);
        Due.is("no streets, itself", x.far(1, 1), 0);
    }

    private static void nextIsTheLeast() {
        Due.saying("part 2", "NEXT of a CART at a CORNER: the least STREET by which it comes nearer by just its length");
        DecreedStreets x = Due.of("c4 60;s0 1 9 4;s3 0 1 4;s2 0 1 4;s1 2 2 4;s1 3 2 4;s0 1 3 4;k0 1 0 1 99;k1 0 0 1 99;");
        x.minute(1);
        Due.is("street 1 and street 2 with 2, and street 5, are as short", x.next(0), 1);
        Due.is("cart 1 is ON the least, street 3", x.cart(1, 6), 3);
        x = Due.of("c2 60;s0 1 5 4;s1 0 5 4;s0 1 4 4;s1 0 4 4;k1 0 0 1 99;");
        x.minute(1);
        Due.is("of like ones the least, though its other way is open: it waits", x.next(0), 2);
        Due.is("it waits", x.told(8), 1);
    }

    private static void withoutANext() {
        Due.saying("part 2", "NONE: there is no way.");
        DecreedStreets x = Due.of("c3 1;s0 1 1 0;k0 2 5 1 99;k2 1 0 1 0;");
        x.minute(1);
        Due.is("cart(1, 5): at THE INN", x.cart(1, 5), 4);
        x.minute(4);
        Due.is("cart(0, 5): ahead", x.cart(0, 5), 0);
        Due.saying("part 2", "who starts at t WAITS at F since t (without a NEXT he is at THE INN at once).");
        x.minute(1);
        Due.is("cart(0, 5): at THE INN", x.cart(0, 5), 4);
        Due.is("cart(0, 6): at F", x.cart(0, 6), 0);
        Due.is("cart(0, 7)", x.cart(0, 7), 5);
        Due.is("cart(0, 8): not a minute WAITED", x.cart(0, 8), 0);
        Due.is("cart(0, 9)", x.cart(0, 9), Due.NONE);
        Due.is("next(0)", x.next(0), Due.NONE);
        Due.is("told(7)", x.told(7), 3);
        Due.is("told(8)", x.told(8), 0);
        Due.is("told(9)", x.told(9), 0);
        x = Due.of("c2 1;k0 1 200 9 99;");
        x.minute(200);
        Due.is("no streets, told(7) ahead", x.told(7), 0);
        x.minute(1);
        Due.is("no streets, told(7)", x.told(7), 1);
    }

    private static void foremost() {
        Due.saying("part 2", "by RANK (the greater first), of like ones who WAITS longer (since the lesser minute), then the lesser number: the foremost is first.");
        DecreedStreets x = Due.of("c2 60;s1 0 1 4;k0 1 2 1 99;k0 1 1 1 99;k0 1 1 1 99;k0 1 3 2 99;k1 0 9 9 99;");
        Due.is("nobody", x.foremost(0, 1), Due.NONE);
        x.minute(2);
        Due.is("like RANK, like minute: the lesser number", x.foremost(0, 1), 1);
        x.minute(1);
        Due.is("like RANK: who WAITS longer, though 0 is less", x.foremost(0, 1), 1);
        x.minute(1);
        Due.is("the greater RANK, though he came last", x.foremost(0, 1), 3);
        Due.is("nobody on the other side", x.foremost(0, 0), Due.NONE);
        x.rank(3, 1);
        Due.is("like RANK again", x.foremost(0, 1), 1);
        x.rank(2, 9);
        Due.is("RANK 9", x.foremost(0, 1), 2);
    }

    private static void onForItsLength() {
        Due.saying("part 2", "(a) who has been ON a STREET for L minutes comes to its end");
        for (int length = 1; length <= 9; length++) {
            DecreedStreets x = Due.of("c2 1;s0 1 " + length + " 4;k0 1 0 1 0;");
            Due.is("behind L minutes, L " + length, x.minute(length), 0);
            Due.is("ON it", x.street(0, 5), 1);
            Due.is("behind one more", x.minute(1), 1);
            Due.is("nobody ON it", x.street(0, 5), 0);
            Due.is("HOME since", x.cart(0, 7), length);
        }
    }

    private static void homeOrOn() {
        Due.saying("part 2", "HOME, if it is where he wants; else WAITS there since t.");
        DecreedStreets x = Due.of("c3 60;s0 1 2 4;s2 1 1 4;k0 2 0 1 99;k0 1 0 1 99;");
        x.minute(3);
        Due.is("cart(0, 5): at the end he WAITS", x.cart(0, 5), 1);
        Due.is("cart(0, 6)", x.cart(0, 6), 1);
        Due.is("cart(0, 7)", x.cart(0, 7), 2);
        Due.is("next(0)", x.next(0), 1);
        x.minute(1);
        Due.is("cart(1, 5): HOME", x.cart(1, 5), 3);
        Due.is("cart(1, 6)", x.cart(1, 6), 1);
        Due.is("cart(0, 7): still since then", x.cart(0, 7), 2);
        x = Due.of("c3 60;s0 1 2 4;s1 2 1 4;k0 2 0 1 0;");
        x.minute(3);
        Due.is("he goes on in the minute in which he comes", x.cart(0, 6), 1);
        Due.is("ON it since", x.cart(0, 7), 2);
        Due.is("not a minute WAITED", x.cart(0, 8), 0);
    }

    private static void starts() {
        Due.saying("part 2", "(b) who starts at t WAITS at F since t");
        for (int m : new int[] {0, 1, 199, 200}) {
            DecreedStreets x = Due.of("c2 60;s1 0 1 4;k0 1 " + m + " 1 9;");
            if (m > 0) {
                x.minute(m);
            }
            Due.is("M " + m + ": not STARTED", x.cart(0, 5), 0);
            Due.is("M " + m + ": since", x.cart(0, 7), Due.NONE);
            x.minute(1);
            Due.is("M " + m + ": WAITS", x.cart(0, 5), 1);
            Due.is("M " + m + ": since", x.cart(0, 7), m);
            Due.is("M " + m + ": WAITED", x.cart(0, 8), 1);
        }
    }

    private static void onlyWithNobodyOnIt() {
        Due.saying("part 2", "(c) STREET by STREET: if nobody is ON it, it may turn");
        for (int law = 0; law <= 3; law++) {
            DecreedStreets x = Due.of("c2 2;s0 1 9 " + law + ";k0 1 0 1 99;k1 0 1 9 99;k1 0 1 9 99;");
            x.minute(9);
            Due.is("LAW " + law + ": one is ON it", x.street(0, 4), 0);
            Due.is("LAW " + law + ": who", x.street(0, 5), 1);
            x.minute(1);
            Due.is("LAW " + law + ": he left, minute 9", x.street(0, 4), law == 1 ? 0 : 1);
        }
        DecreedStreets x = Due.of("c2 60;s0 1 1 0;k0 1 0 1 9;k1 0 1 1 9;");
        x.minute(2);
        Due.is("it turns in the minute in which he leaves", x.street(0, 5), 2);
        x = Due.of("c2 60;s0 1 2 4;k0 1 0 1 9;");
        x.minute(1);
        x.law(0, 2);
        x.minute(2);
        Due.is("with nobody who WAITS as it GOES", x.street(0, 4), 0);
    }

    private static void lawZero() {
        Due.saying("part 2", "LAW 0: it GOES from the side of who WAITS longest for it (of both sides; of like ones from A), if somebody does");
        DecreedStreets x = Due.of("c2 60;s0 1 3 0;k1 0 0 1 99;k0 1 1 1 99;k0 1 2 9 99;");
        x.minute(3);
        Due.is("from B, till he is there", x.street(0, 5), 1);
        x.minute(1);
        Due.is("from A: since 1", x.street(0, 4), 0);
        Due.is("the foremost enters, though another WAITS longest", x.street(0, 5), 4);
        x = Due.of("c3 60;s0 1 3 0;s1 2 5 0;k1 0 0 1 99;k2 0 0 1 99;k0 1 1 1 99;k0 1 2 1 99;");
        x.minute(4);
        Due.is("only those who WAIT count: from A", x.street(0, 4), 0);
        x = Due.of("c2 60;s0 1 3 0;k0 1 0 1 99;k1 0 1 1 99;k1 0 2 1 99;k0 1 3 1 99;");
        x.minute(4);
        Due.is("at 3 from B: since 1", x.street(0, 4), 1);
    }

    private static void lawZeroOfLikeOnes() {
        Due.saying("part 2", "of like ones from A");
        for (int turns = 0; turns < 2; turns++) {
            DecreedStreets x = Due.of("c2 60;s0 1 3 0;k1 0 4 9 99;k1 0 4 9 99;k0 1 4 1 99;");
            x.minute(4);
            if (turns == 1) {
                x.turn(0);
            }
            x.minute(1);
            Due.is("from A, turned " + turns, x.street(0, 4), 0);
            Due.is("who is ON it", x.street(0, 5), 4);
        }
    }

    private static void lawZeroWithNobody() {
        Due.saying("part 2", "if somebody does; 1: by t / H");
        DecreedStreets x = Due.of("c2 1;s0 1 3 0;");
        x.minute(5);
        Due.is("with nobody as it GOES", x.street(0, 4), 0);
        x.turn(0);
        x.minute(5);
        Due.is("turned, with nobody as it GOES", x.street(0, 4), 1);
        x = Due.of("c2 1;s0 1 3 0;k1 0 0 1 0;");
        x.minute(1);
        Due.is("nobody at A", x.street(0, 5), 1);
        x = Due.of("c2 1;s0 1 3 0;k0 1 0 1 0;");
        x.turn(0);
        x.minute(1);
        Due.is("nobody at B", x.street(0, 5), 1);
        Due.is("nobody at B: it turned", x.street(0, 4), 0);
    }

    private static void lawOne() {
        Due.saying("part 2", "1: by t / H: 0, if that can be divided by 2, else 1");
        for (int half : new int[] {1, 2, 7, 60}) {
            DecreedStreets x = Due.of("c2 " + half + ";s0 1 1 1;");
            x.turn(0);
            for (int t = 0; t < 2 * half + 2; t++) {
                x.minute(1);
                Due.is("H " + half + " behind minute " + t, x.street(0, 4), t / half == 1 || t / half == 3 ? 1 : 0);
            }
        }
        DecreedStreets x = Due.of("c2 60;s0 1 1 1;k0 1 59 1 0;k1 0 60 1 0;k0 1 119 1 0;k1 0 119 1 0;k0 1 120 1 0;");
        x.minute(122);
        Due.is("who came HOME: in the last minute of a half, in the first", x.told(6), 1 + 2 + 8 + 16);
        Due.is("who did not", x.told(7), 4);
    }

    private static void lawTwo() {
        Due.saying("part 2", "2: from the side where more WAIT for it (of like many: as it GOES)");
        DecreedStreets x = Due.of("c2 1;s0 1 3 2;k1 0 0 1 99;k0 1 0 9 99;k1 0 0 1 99;");
        x.minute(1);
        Due.is("two at B, one at A", x.street(0, 4), 1);
        x = Due.of("c2 1;s0 1 3 2;k0 1 0 1 99;k1 0 0 9 99;k0 1 0 1 99;");
        x.turn(0);
        x.minute(1);
        Due.is("two at A, one at B", x.street(0, 4), 0);
        x = Due.of("c2 1;s0 1 3 2;k1 0 0 1 99;");
        x.minute(1);
        Due.is("one at B, nobody at A", x.street(0, 5), 1);
        x = Due.of("c2 1;s0 1 3 2;k0 1 0 1 99;");
        x.turn(0);
        x.minute(1);
        Due.is("one at A, nobody at B", x.street(0, 5), 1);
        x = Due.of("c3 1;s0 1 3 2;s1 2 1 4;k1 2 0 1 99;k2 1 0 1 99;k1 0 0 1 99;k1 2 0 1 99;k0 1 0 1 99;");
        x.minute(1);
        Due.is("who WAITS there for another street does not count", x.street(0, 4), 0);
    }

    private static void lawTwoOfLikeMany() {
        Due.saying("part 2", "of like many: as it GOES");
        for (int turned = 0; turned < 2; turned++) {
            DecreedStreets x = Due.of("c2 1;s0 1 3 2;k0 1 0 1 99;k1 0 0 9 99;k0 1 0 9 99;k1 0 0 1 99;");
            if (turned == 1) {
                x.turn(0);
            }
            x.minute(1);
            Due.is("two on each side, turned " + turned, x.street(0, 4), turned);
            Due.is("the foremost of the side", x.street(0, 5), turned == 0 ? 4 : 2);
            DecreedStreets y = Due.of("c2 1;s0 1 3 2;");
            if (turned == 1) {
                y.turn(0);
            }
            y.minute(300);
            Due.is("nobody on each side, turned " + turned, y.street(0, 4), turned);
        }
    }

    private static void lawThree() {
        Due.saying("part 2", "3: from the side of the foremost of greater RANK");
        DecreedStreets x = Due.of("c2 1;s0 1 3 3;k0 1 0 8 99;k0 1 0 8 99;k1 0 0 9 99;k1 0 0 1 99;");
        x.minute(1);
        Due.is("9 at B, 8 and 8 at A", x.street(0, 5), 4);
        x = Due.of("c2 1;s0 1 3 3;k0 1 0 1 99;k0 1 0 2 99;k1 0 0 1 99;k1 0 0 1 99;");
        x.turn(0);
        x.minute(1);
        Due.is("2 and 1 at A, 1 and 1 at B", x.street(0, 5), 2);
        x = Due.of("c2 1;s0 1 3 3;k0 1 0 5 99;k1 0 0 4 99;");
        x.rank(1, 6);
        x.minute(1);
        Due.is("by the RANK of now", x.street(0, 5), 2);
    }

    private static void lawThreeOfLikeOnes() {
        Due.saying("part 2", "(of like ones, with nobody: as it GOES; nobody on one side: from the other one)");
        for (int turned = 0; turned < 2; turned++) {
            DecreedStreets x = Due.of("c2 1;s0 1 3 3;k0 1 1 5 99;k1 0 0 5 0;k0 1 1 4 99;k1 0 1 5 99;");
            x.law(0, 4);
            x.minute(1);
            x.law(0, 3);
            if (turned == 1) {
                x.turn(0);
            }
            x.minute(1);
            Due.is("5 on each side, turned " + turned, x.street(0, 4), turned);
            Due.is("who, turned " + turned, x.street(0, 5), turned == 0 ? 1 : 8);
            DecreedStreets y = Due.of("c2 1;s0 1 3 3;");
            if (turned == 1) {
                y.turn(0);
            }
            y.minute(300);
            Due.is("nobody, turned " + turned, y.street(0, 4), turned);
        }
    }

    private static void lawThreeWithNobodyOnOneSide() {
        Due.saying("part 2", "nobody on one side: from the other one");
        DecreedStreets x = Due.of("c2 1;s0 1 3 3;k1 0 0 1 0;");
        x.minute(1);
        Due.is("nobody at A", x.street(0, 5), 1);
        Due.is("nobody at A: from B", x.street(0, 4), 1);
        x = Due.of("c2 1;s0 1 3 3;k0 1 0 1 0;");
        x.turn(0);
        x.minute(1);
        Due.is("nobody at B", x.street(0, 5), 1);
        Due.is("nobody at B: from A", x.street(0, 4), 0);
    }

    private static void lawFour() {
        Due.saying("part 2", "4 NEVER (it goes from A to B for ever)");
        DecreedStreets x = Due.of("c2 1;s0 1 3 4;k1 0 0 9 9;k1 0 0 9 9;");
        x.minute(9);
        Due.is("nobody enters from B", x.street(0, 5), 0);
        Due.is("they WAIT", x.told(8), 3);
        x.turn(0);
        Due.is("turned by hand", x.street(0, 4), 1);
        x.minute(1);
        Due.is("the next minute turns it back", x.street(0, 4), 0);
        Due.is("nobody has entered", x.told(7), 3);
    }

    private static void lawFourWithSomebodyOnIt() {
        Due.saying("part 2", "nobody on one side: from the other one); 4: 0.");
        DecreedStreets x = Due.of("c2 1;s0 1 3 0;k1 0 0 1 99;k1 0 1 1 99;k1 0 5 1 99;k0 1 2 9 99;");
        x.minute(1);
        Due.is("from B by LAW 0", x.street(0, 4), 1);
        x.law(0, 4);
        Due.is("the LAW alone turns nothing", x.street(0, 4), 1);
        x.minute(3);
        Due.is("one is ON it still: from B", x.street(0, 4), 1);
        Due.is("who followed", x.street(0, 5), 2);
        Due.is("HOME at A", x.told(6), 1);
        x.minute(1);
        Due.is("nobody is: from A", x.street(0, 4), 0);
        Due.is("who enters", x.street(0, 5), 8);
        Due.is("both HOME at A", x.told(6), 3);
        x.minute(9);
        Due.is("who WAITS at B for ever", x.told(8), 4);
        Due.is("he came from A", x.told(6), 11);
    }

    private static void theForemostEnters() {
        Due.saying("part 2", "Then the foremost who WAITS on the side from which it GOES, if somebody does, enters: he is ON it from t.");
        DecreedStreets x = Due.of("c2 1;s0 1 9 4;k0 1 0 1 99;k0 1 0 2 99;k0 1 2 9 99;k1 0 0 9 99;");
        x.minute(1);
        Due.is("one alone in a minute", x.street(0, 5), 2);
        x.minute(1);
        Due.is("one behind the other", x.street(0, 5), 3);
        x.minute(1);
        Due.is("who starts enters at once", x.street(0, 5), 7);
        Due.is("from t", x.cart(2, 7), 2);
        Due.is("from t, the second", x.cart(0, 7), 1);
        x.minute(6);
        Due.is("all three", x.street(0, 5), 7);
        x.minute(1);
        Due.is("one behind the other they leave", x.street(0, 5), 5);
        x.minute(1);
        Due.is("the second has left", x.street(0, 5), 4);
        Due.is("who WAITS on the other side", x.told(8), 8);
    }

    private static void patience() {
        Due.saying("part 2", "(d) who still WAITS has WAITED a minute more; is this more than his PATIENCE, he is at THE INN.");
        for (int p : new int[] {0, 1, 2, 98, 99}) {
            DecreedStreets x = Due.of("c2 60;s1 0 1 4;k0 1 3 1 " + p + ";");
            x.minute(3 + p);
            Due.is("P " + p + " reached: WAITED", x.cart(0, 8), p);
            Due.is("P " + p + " reached: how it is", x.cart(0, 5), p == 0 ? 0 : 1);
            x.minute(1);
            Due.is("P " + p + " passed: WAITED", x.cart(0, 8), p + 1);
            Due.is("P " + p + " passed: how it is", x.cart(0, 5), 4);
            Due.is("P " + p + " passed: where", x.cart(0, 6), 0);
            Due.is("P " + p + " passed: since", x.cart(0, 7), 3 + p);
            Due.is("P " + p + " passed: next", x.next(0), Due.NONE);
            Due.is("P " + p + " passed: foremost", x.foremost(0, 1), Due.NONE);
            x.law(0, 0);
            x.minute(9);
            Due.is("P " + p + " passed: he stays there", x.cart(0, 5), 4);
            Due.is("P " + p + " passed: he WAITS no more", x.cart(0, 8), p + 1);
        }
        for (int p = 2; p <= 3; p++) {
            DecreedStreets x = Due.of("c2 3;s0 1 1 1;k1 0 0 1 " + p + ";");
            x.minute(4);
            Due.is("behind three minutes he may enter, P " + p, x.cart(0, 5), p == 3 ? 2 : 4);
        }
        DecreedStreets x = Due.of("c2 3;s0 1 1 4;k0 1 7 1 0;");
        x.minute(9);
        Due.is("P 0 and an open street", x.cart(0, 9), 1);
    }

    private static void patienceOfAllMinutes() {
        Due.saying("part 2", "(d) who still WAITS has WAITED a minute more; is this more than his PATIENCE, he is at THE INN.");
        for (int p = 2; p <= 3; p++) {
            DecreedStreets x = Due.of("c3 2;s1 0 1 1;s1 2 1 1;k0 2 0 1 " + p + ";");
            x.minute(3);
            Due.is("two at the first corner", x.cart(0, 8), 2);
            Due.is("he is ON the first street, P " + p, x.cart(0, 5), 2);
            x.minute(1);
            Due.is("one more at the second", x.cart(0, 8), 3);
            Due.is("P " + p, x.cart(0, 5), p == 2 ? 4 : 1);
            Due.is("at the second corner", x.cart(0, 6), 1);
            Due.is("minute(2), P " + p, x.minute(2), p == 2 ? 0 : 1);
        }
    }

    private static void toll() {
        Due.saying("part 2", "TOLL is the minutes that all have WAITED together.");
        DecreedStreets x = Due.of("c2 60;s0 1 1 4;k1 0 0 1 2;k0 1 0 1 9;k0 1 0 1 9;k0 1 0 1 9;");
        Due.is("at first", x.told(9), 0);
        x.minute(1);
        Due.is("three WAIT", x.told(9), 3);
        x.minute(1);
        Due.is("two WAIT", x.told(9), 5);
        x.minute(1);
        Due.is("one gives up", x.told(9), 6);
        x.minute(300);
        Due.is("of all, wherever they are", x.told(9), 6);
        Due.is("all but one are HOME", x.told(6), 14);
    }

    private static void trip() {
        Due.saying("part 2", "A CART's TRIP: minutes from M on to when he is HOME.");
        DecreedStreets x = Due.of("c2 60;s0 1 9 4;k0 1 200 1 9;k0 1 200 1 9;");
        x.minute(209);
        Due.is("ON: none", x.cart(0, 9), Due.NONE);
        x.minute(1);
        Due.is("from 200 to 209", x.cart(0, 9), 9);
        Due.is("the other one: none", x.cart(1, 9), Due.NONE);
        x.minute(91);
        Due.is("the minute WAITED counts", x.cart(1, 9), 10);
        Due.is("it stays so", x.cart(0, 9), 9);
    }
}
