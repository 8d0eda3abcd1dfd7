/** The boundary cases that part 3 of the document names: what is tried, ruts, the record, draws, images. */
public final class BoundsOfTriedTest {
    public static void main(String[] args) {
        triedFromNow();
        allHomeOfOneToThreeHundred();
        whoIsNotHome();
        foreseenMinutes();
        foreseenLaws();
        foreseenMayWait();
        foreseenAtMost();
        boughtMinutes();
        boughtForOneEntry();
        boughtOfLawOneAlone();
        ranksEachToOne();
        ranksOfLikeOnes();
        bestLawOfLikeOnes();
        bestLawForOne();
        lostBehindThreeHundred();
        costsOfTheOthers();
        costsOfOneNotStarted();
        eightRuts();
        rutsFromNow();
        rutsOfAStreet();
        rutsWithOthersAsTheyAre();
        decreeIfNobodyIsOnIt();
        decreeNoneBetter();
        decreeOfLikeOnes();
        fifteenEntries();
        theFirstThatIsNotSo();
        seedAtItsEnds();
        drawsOfStreets();
        drawsWithoutStreets();
        drawsIfNobodyIsOnIt();
        imagesKeep();
        Due.end();
    }

    private static void triedFromNow() {
        Due.saying("part 3", "TRIED from now; nothing changes by it.");
        DecreedStreets x = Due.of("c2 5;s0 1 2 1;k0 1 3 1 99;k1 0 0 2 99;");
        x.minute(2);
        x.seed(6);
        Due.is("allHome(3, 0)", x.allHome(3, 0), 0);
        Due.is("allHome(4, 0): at 5", x.allHome(4, 0), 1);
        Due.is("lost()", x.lost(), 0);
        Due.is("ranks(9, -1)", x.ranks(9, -1), 5 + 7);
        Due.is("bestLaw(9, -1)", x.bestLaw(9, -1), 0);
        Due.is("costs(0, 9)", x.costs(0, 9), 0);
        Due.is("decree(9)", x.decree(9), Due.NONE);
        Due.is("laws(0)", x.laws(0), 31);
        Due.is("told(5)", x.told(5), 2);
        Due.is("told(8)", x.told(8), 2);
        Due.is("told(9)", x.told(9), 2);
        Due.is("street(0, 3)", x.street(0, 3), 1);
        Due.is("street(0, 4)", x.street(0, 4), 0);
        Due.is("cart(0, 3)", x.cart(0, 3), 1);
        Due.is("seed(6)", x.seed(6), 6);
        Due.is("minute(3)", x.minute(3), 0);
        Due.is("minute(1)", x.minute(1), 1);
    }

    private static void allHomeOfOneToThreeHundred() {
        Due.saying("part 3", "ALL HOME for n minutes (1 .. 300): how many are HOME then");
        DecreedStreets x = Due.of("c2 60;s0 1 1 4;k0 1 0 1 9;k0 1 200 1 99;");
        Due.is("allHome(1, 0)", x.allHome(1, 0), 0);
        Due.is("allHome(2, 0)", x.allHome(2, 0), 1);
        Due.is("allHome(201, 0)", x.allHome(201, 0), 1);
        Due.is("allHome(202, 0)", x.allHome(202, 0), 2);
        Due.is("allHome(300, 0)", x.allHome(300, 0), 2);
        Due.is("allHome(0, 0)", x.allHome(0, 0), Due.OUTSIDE);
        Due.is("allHome(301, 0)", x.allHome(301, 0), Due.OUTSIDE);
        x.minute(300);
        Due.is("allHome(1, 0): who was HOME counts", x.allHome(1, 0), 2);
        Due.is("allHome(1, 1): when they came", x.allHome(1, 1), 1 + 201);
    }

    private static void whoIsNotHome() {
        Due.saying("part 3", "the minutes at which they came, together (those who are not: t of then each).");
        DecreedStreets x = Due.of("c3 60;s0 1 5 4;k0 2 0 1 9;k1 0 0 1 9;k0 1 0 1 9;k0 1 200 1 9;");
        Due.is("allHome(1, 1): INN, WAITS, ON, ahead", x.allHome(1, 1), 4);
        Due.is("allHome(5, 1)", x.allHome(5, 1), 20);
        Due.is("allHome(6, 1): one came at 5", x.allHome(6, 1), 5 + 18);
        Due.is("allHome(300, 1)", x.allHome(300, 1), 5 + 205 + 600);
        x.minute(100);
        Due.is("allHome(1, 1) at 100", x.allHome(1, 1), 5 + 303);
        Due.is("no carts", Due.of("c2 1;").allHome(300, 1), 0);
    }

    private static void foreseenMinutes() {
        Due.saying("part 3", "FORESEEN: a lone CART at CORNER a at minute m (0 .. 999) to b");
        DecreedStreets x = Due.of("c2 60;s0 1 1 1;");
        Due.is("foreseen(0, 1, 0)", x.foreseen(0, 1, 0), 1);
        Due.is("foreseen(0, 1, 999): 960 to 1019 are even", x.foreseen(0, 1, 999), 1000);
        Due.is("foreseen(1, 0, 999)", x.foreseen(1, 0, 999), 1021);
        Due.is("foreseen(0, 1, -1)", x.foreseen(0, 1, -1), Due.OUTSIDE);
        Due.is("foreseen(0, 1, 1000)", x.foreseen(0, 1, 1000), Due.OUTSIDE);
        Due.is("foreseen(1, 1, 999): there already", x.foreseen(1, 1, 999), 999);
        Due.is("foreseen(0, 0, 0)", x.foreseen(0, 0, 0), 0);
        x = Due.of("c2 1;s0 1 5 0;k0 1 0 1 9;k1 0 0 1 9;");
        x.minute(1);
        Due.is("a lone one: who is ON it is nothing to it", x.foreseen(1, 0, 1), 6);
    }

    private static void foreseenLaws() {
        Due.saying("part 3", "STREETS of LAWS 0, 2, 3 turn for it at once, those of LAW 1 GO by the hour when it enters, of LAW 4 from A");
        for (int law = 0; law <= 4; law++) {
            DecreedStreets x = Due.of("c2 10;s0 1 3 " + law + ";");
            x.turn(0);
            Due.is("from A, LAW " + law, x.foreseen(0, 1, 7), 10);
            Due.is("from B, LAW " + law, x.foreseen(1, 0, 7), law == 1 ? 13 : law == 4 ? Due.NONE : 10);
        }
        DecreedStreets x = Due.of("c2 10;s0 1 3 1;");
        Due.is("enters in the last minute of the half", x.foreseen(0, 1, 9), 12);
        Due.is("a minute later", x.foreseen(0, 1, 10), 23);
        Due.is("from B in the first", x.foreseen(1, 0, 10), 13);
        Due.is("from B in the last", x.foreseen(1, 0, 19), 22);
        Due.is("from B a minute later", x.foreseen(1, 0, 20), 33);
        x = Due.of("c2 1;s0 1 3 1;");
        Due.is("H 1, from A at an even minute", x.foreseen(0, 1, 2), 5);
        Due.is("H 1, from A at an odd minute", x.foreseen(0, 1, 3), 7);
        Due.is("H 1, from B at an even minute", x.foreseen(1, 0, 2), 6);
    }

    private static void foreseenMayWait() {
        Due.saying("part 3", "it may wait at CORNERS: the soonest minute at which it is there");
        DecreedStreets x = Due.of("c3 10;s1 0 1 1;s0 2 9 0;s2 1 1 0;");
        Due.is("to wait two is sooner than to go round", x.foreseen(0, 1, 8), 11);
        Due.is("as soon", x.foreseen(0, 1, 1), 11);
        Due.is("to go round is sooner", x.foreseen(0, 1, 0), 10);
        x = Due.of("c3 4;s0 1 2 1;s1 2 1 1;s0 2 9 4;");
        Due.is("to wait at the second corner", x.foreseen(0, 2, 2), 9);
    }

    private static void foreseenAtMost() {
        Due.saying("part 3", "(300 minutes later at most); NONE.");
        DecreedStreets x = Due.of("c7 60;s1 0 1 1;s1 2 1 1;s3 2 1 1;s3 4 1 1;s5 4 1 1;s5 6 1 1;");
        Due.is("300 minutes later", x.foreseen(0, 5, 1), 301);
        Due.is("301 minutes later", x.foreseen(0, 5, 0), Due.NONE);
        Due.is("299 minutes later", x.foreseen(0, 5, 2), 301);
        Due.is("300 minutes later, from 961 on", x.foreseen(0, 5, 961), 1261);
        Due.is("301 minutes later, from 960 on", x.foreseen(0, 5, 960), Due.NONE);
        Due.is("no way", Due.of("c2 1;").foreseen(0, 1, 0), Due.NONE);
        Due.is("against LAW 4", Due.of("c2 1;s0 1 1 4;").foreseen(1, 0, 0), Due.NONE);
    }

    private static void boughtMinutes() {
        Due.saying("part 3", "the fewest to be there by minute m and n (n 0 .. 300); NONE.");
        DecreedStreets x = Due.of("c3 60;s0 1 9 1;");
        Due.is("bought(0, 1, 0, 9): just in time", x.bought(0, 1, 0, 9), 0);
        Due.is("bought(0, 1, 0, 8)", x.bought(0, 1, 0, 8), Due.NONE);
        Due.is("bought(1, 0, 0, 69): just in time", x.bought(1, 0, 0, 69), 0);
        Due.is("bought(1, 0, 0, 68)", x.bought(1, 0, 0, 68), 1);
        Due.is("bought(1, 0, 0, 9)", x.bought(1, 0, 0, 9), 1);
        Due.is("bought(1, 0, 0, 8)", x.bought(1, 0, 0, 8), Due.NONE);
        Due.is("bought(0, 0, 0, 0): there already", x.bought(0, 0, 0, 0), 0);
        Due.is("bought(0, 1, 0, 0)", x.bought(0, 1, 0, 0), Due.NONE);
        Due.is("bought(0, 1, 999, 300)", x.bought(0, 1, 999, 300), 0);
        Due.is("bought(0, 2, 0, 300): no way", x.bought(0, 2, 0, 300), Due.NONE);
        Due.is("bought(0, 1, 0, -1)", x.bought(0, 1, 0, -1), Due.OUTSIDE);
        Due.is("bought(0, 1, 0, 301)", x.bought(0, 1, 0, 301), Due.OUTSIDE);
        Due.is("bought(0, 1, -1, 9)", x.bought(0, 1, -1, 9), Due.OUTSIDE);
        Due.is("bought(0, 1, 1000, 9)", x.bought(0, 1, 1000, 9), Due.OUTSIDE);
        Due.is("bought(0, 1, 999, 9)", x.bought(0, 1, 999, 9), 0);
    }

    private static void boughtForOneEntry() {
        Due.saying("part 3", "a STREET of LAW 1 can be bought for one entry the other way");
        DecreedStreets x = Due.of("c7 60;s1 0 1 1;s2 1 1 1;s3 2 1 1;s4 3 1 1;s5 4 1 1;s6 5 1 1;");
        for (int b = 0; b <= 6; b++) {
            Due.is("each entry is bought: " + b, x.bought(0, b, 0, b), b);
        }
        Due.is("one bought does not hold till the hour", x.bought(0, 6, 53, 7), 6);
        Due.is("the last with the hour", x.bought(0, 6, 55, 6), 5);
        Due.is("at 60 all go", x.bought(0, 6, 60, 6), 0);
        for (int b = 0; b <= 6; b++) {
            Due.is("from A at 60 each entry is bought: " + b, x.bought(6, 6 - b, 60, b), b);
        }
    }

    private static void boughtOfLawOneAlone() {
        Due.saying("part 3", "a STREET of LAW 1 can be bought for one entry the other way");
        for (int law = 0; law <= 4; law++) {
            DecreedStreets x = Due.of("c2 60;s0 1 1 " + law + ";");
            Due.is("from A, LAW " + law, x.bought(0, 1, 0, 1), 0);
            Due.is("from B, LAW " + law, x.bought(1, 0, 0, 1), law == 1 ? 1 : law == 4 ? Due.NONE : 0);
        }
    }

    private static void ranksEachToOne() {
        Due.saying("part 3", "RANKS: RANKS of all CARTS are given to them anew (each to one, as many as there are)");
        DecreedStreets x = Due.of("c2 9;s0 1 3 4;k0 1 0 7 2;k0 1 0 2 1;k0 1 0 2 0;");
        Due.is("as it is", x.allHome(30, 1), 3 + 4 + 30);
        Due.is("7 to the last, the others like: the lesser number first, who has more PATIENCE", x.ranks(30, -1), 3 + 4 + 30);
        Due.is("ranks(30, 0)", x.ranks(30, 0), 2);
        Due.is("ranks(30, 1)", x.ranks(30, 1), 2);
        Due.is("ranks(30, 2)", x.ranks(30, 2), 7);
        x = Due.of("c2 9;s0 1 3 4;k0 1 0 1 0;k0 1 0 9 9;");
        Due.is("of two the first has to go first", x.ranks(30, 0), 9);
        Due.is("of two the second", x.ranks(30, 1), 1);
        x = Due.of("c2 9;s0 1 3 4;k0 1 0 1 0;k0 1 0 2 1;k0 1 0 3 2;k0 1 0 4 3;k0 1 0 5 4;k0 1 0 6 5;");
        Due.is("all HOME by the last of 720 alone", x.ranks(30, -1), 3 + 4 + 5 + 6 + 7 + 8);
        for (int k = 0; k < 6; k++) {
            Due.is("the last of 720: ranks(30, " + k + ")", x.ranks(30, k), 6 - k);
        }
        x = Due.of("c2 9;s0 1 3 4;k0 1 0 4 0;");
        Due.is("one alone", x.ranks(30, 0), 4);
        Due.is("one alone, together", x.ranks(30, -1), 3);
        Due.is("no carts", Due.of("c2 9;").ranks(30, -1), 0);
    }

    private static void ranksOfLikeOnes() {
        Due.saying("part 3", "of like ones the first (CART by CART the lesser RANK)");
        DecreedStreets x = Due.of("c2 9;s0 1 3 4;k0 1 0 9 99;k0 1 0 8 99;k0 1 0 7 99;k0 1 0 6 99;k0 1 0 5 99;k0 1 0 4 99;");
        for (int k = 0; k < 6; k++) {
            Due.is("all are alike: ranks(30, " + k + ")", x.ranks(30, k), 4 + k);
        }
        x = Due.of("c2 9;s0 1 3 4;k0 1 0 9 0;k0 1 0 1 99;k0 1 0 5 99;");
        Due.is("the first has to go first", x.ranks(30, 0), 9);
        Due.is("of the others the lesser to the lesser", x.ranks(30, 1), 1);
        Due.is("ranks(30, 2)", x.ranks(30, 2), 5);
        likeRanks();
    }

    /** RANKS 2, 2, 1, 1: the two that WAIT for less than two minutes have to get the greater ones. */
    private static void likeRanks() {
        for (int hurried : new int[] {3, 5, 6, 9, 10, 12}) {
            StringBuilder text = new StringBuilder("c2 9;s0 1 3 4;");
            for (int k = 0; k < 4; k++) {
                text.append("k0 1 0 ").append(k < 2 ? 2 : 1).append((hurried >> k & 1) == 1 ? " 1;" : " 99;");
            }
            DecreedStreets x = Due.of(text.toString());
            Due.is("all HOME in " + text, x.ranks(30, -1), 3 + 4 + 5 + 6);
            for (int k = 0; k < 4; k++) {
                Due.is("ranks(30, " + k + ") in " + text, x.ranks(30, k), 1 + (hurried >> k & 1));
            }
        }
    }

    private static void bestLawOfLikeOnes() {
        Due.saying("part 3", "BEST LAW for all STREETS: by which ALL HOME for n is soonest together; of like ones the least");
        Due.is("no streets", Due.of("c2 9;k0 1 0 1 9;").bestLaw(30, -1), 0);
        Due.is("no carts", Due.of("c2 9;s0 1 3 4;").bestLaw(30, -1), 0);
        Due.is("too few minutes", Due.of("c2 9;s0 1 3 4;k0 1 0 1 9;").bestLaw(1, -1), 0);
        DecreedStreets x = Due.of("c2 60;s0 1 9 4;k1 0 0 1 99;k0 1 1 2 99;k0 1 1 2 99;k0 1 1 2 99;");
        x.law(0, 4);
        x.minute(1);
        Due.is("LAWS 1 and 4 let three go first, 2 and 3 as well", x.allHome(60, 1), 10 + 11 + 12 + 61);
        Due.is("of LAWS 2 and 3 the least", x.bestLaw(60, -1), 2);
        Due.is("of LAWS 2 and 3 the least, for one", x.bestLaw(60, 0), 2);
    }

    private static void bestLawForOne() {
        Due.saying("part 3", "for one STREET (others as they are) likewise.");
        DecreedStreets x = Due.of("c3 60;s0 1 1 4;s1 2 1 4;k1 0 0 1 99;k2 1 0 1 99;");
        Due.is("for all", x.bestLaw(20, -1), 0);
        x.law(0, 2);
        Due.is("for the second, as the first is", x.bestLaw(20, 1), 0);
        Due.is("street(0, 3)", x.street(0, 3), 2);
        Due.is("street(1, 3)", x.street(1, 3), 4);
        x = Due.of("c3 5;s0 1 9 4;s1 2 1 4;k1 0 0 9 0;k0 1 0 1 99;k1 2 0 1 99;");
        Due.is("RANK for the first", x.bestLaw(60, 0), 3);
        Due.is("any for the second", x.bestLaw(60, 1), 0);
    }

    private static void lostBehindThreeHundred() {
        Due.saying("part 3", "LOST: CARTS that are neither HOME nor at THE INN behind 300 minutes (a SET of CARTS).");
        String six = "c7 60;s0 1 9 4;s1 2 9 4;s2 3 9 4;s3 4 9 4;s4 5 9 4;s6 5 9 0;";
        DecreedStreets x = Due.of(six + "k0 6 200 1 99;k1 0 199 1 99;k1 0 200 1 99;k6 0 0 1 0;k0 1 0 1 0;");
        Due.is("HOME at 254; INN at 298, 299; INN; HOME", x.lost(), 0);
        x.law(5, 1);
        Due.is("from B at 300, HOME at 309", x.lost(), 1);
        x.minute(8);
        Due.is("behind 308 minutes", x.lost(), 1);
        x.minute(1);
        Due.is("behind 309 minutes: 0 to 308", x.lost(), 1);
        x.minute(1);
        Due.is("behind 310 minutes: 309 is in them", x.lost(), 0);
        Due.is("no carts", Due.of("c2 1;").lost(), 0);
        Due.is("no streets: at THE INN", Due.of("c2 1;k0 1 0 1 99;").lost(), 0);
    }

    private static void costsOfTheOthers() {
        Due.saying("part 3", "ALL HOME of the others with him less without him.");
        DecreedStreets x = Due.of("c2 60;s0 1 3 4;k0 1 0 9 99;k0 1 0 5 99;k0 1 0 1 99;");
        Due.is("the first costs two a minute each", x.costs(0, 30), 2);
        Due.is("the second one", x.costs(1, 30), 1);
        Due.is("the last nobody", x.costs(2, 30), 0);
        Due.is("in the first three minutes nobody", x.costs(0, 3), 0);
        Due.is("in four one", x.costs(0, 4), 1);
        x = Due.of("c2 60;s0 1 9 2;k0 1 0 1 99;k1 0 0 1 99;k1 0 0 9 0;");
        Due.is("below 0", x.costs(1, 60), (19 + 9) - (9 + 60));
        Due.is("a lone one", Due.of("c2 1;s0 1 1 4;k0 1 0 1 1;").costs(0, 300), 0);
    }

    private static void costsOfOneNotStarted() {
        Due.saying("part 3", "if he never starts (he has not STARTED)");
        DecreedStreets x = Due.of("c3 60;s0 1 3 4;k0 1 200 9 99;k0 1 200 5 99;k0 2 1 1 1;");
        x.minute(1);
        Due.is("the minute ahead of his start", x.costs(2, 9), 0);
        x.minute(1);
        Due.is("at THE INN", x.costs(2, 9), Due.NOT);
        x.minute(198);
        Due.is("at 200, which comes", x.costs(0, 9), 1);
        x.minute(1);
        Due.is("ON", x.costs(0, 9), Due.NOT);
        Due.is("WAITS", x.costs(1, 9), Due.NOT);
        x.minute(9);
        Due.is("HOME", x.costs(0, 9), Due.NOT);
    }

    private static void eightRuts() {
        Due.saying("part 3", "RUTS (8 at most)");
        DecreedStreets x = Due.of("c2 60;s0 1 1 0;s0 1 1 0;");
        for (int i = 1; i <= 8; i++) {
            Due.is("rut " + i, x.rut(i % 2, 7, 0), i);
        }
        Due.is("the ninth", x.rut(0, 7, 1), Due.FULL);
        Due.is("the ninth, of another street", x.rut(1, 7, 1), Due.FULL);
        Due.is("told(10)", x.told(10), 8);
        Due.is("laws(0): the ninth is none", x.laws(0), 31);
    }

    private static void rutsFromNow() {
        Due.saying("part 3", "a STREET GOES a way behind minute t (0 .. 99 from now, 0: the next MINUTE).");
        DecreedStreets x = Due.of("c2 60;s0 1 1 4;");
        x.turn(0);
        x.rut(0, 0, 0);
        Due.is("behind the next minute: LAWS 1 and 4", x.laws(0), 18);
        x.tear();
        x.rut(0, 0, 1);
        Due.is("as it GOES: LAWS 0, 2, 3", x.laws(0), 13);
        x.tear();
        x.rut(0, 59, 0);
        x.rut(0, 60, 1);
        Due.is("the hour", x.laws(0), 2);
        x.tear();
        x.rut(0, 99, 1);
        Due.is("behind minute 99: all but NEVER", x.laws(0), 15);
        x.tear();
        x.minute(21);
        x.rut(0, 99, 0);
        Due.is("behind minute 120: all", x.laws(0), 31);
        x.rut(0, 98, 1);
        Due.is("behind minute 119: the hour", x.laws(0), 2);
    }

    private static void rutsOfAStreet() {
        Due.saying("part 3", "LAWS of a STREET by which all RUTS of it are so (others as they are): a SET of LAWS.");
        DecreedStreets x = Due.of("c2 1;s0 1 1 4;s0 1 2 4;");
        Due.is("no RUTS: all", x.laws(0), 31);
        x.rut(1, 0, 1);
        Due.is("RUTS of another one: all", x.laws(0), 31);
        Due.is("none", x.laws(1), 0);
        x.rut(0, 0, 0);
        Due.is("one", x.laws(0), 31);
        x.rut(0, 1, 1);
        Due.is("two", x.laws(0), 2);
        x.rut(0, 1, 0);
        Due.is("one against the other", x.laws(0), 0);
    }

    private static void rutsWithOthersAsTheyAre() {
        Due.saying("part 3", "(others as they are)");
        DecreedStreets x = Due.of("c3 60;s0 1 1 0;s1 2 1 4;k2 0 0 1 99;");
        x.rut(0, 1, 1);
        Due.is("he cannot come: the second is of LAW 4", x.laws(0), 0);
        x.law(1, 0);
        Due.is("he can: LAWS 0, 2, 3 turn for him", x.laws(0), 13);
        Due.is("street(0, 3)", x.street(0, 3), 0);
        Due.is("street(1, 3)", x.street(1, 3), 0);
    }

    /** Of like many as it goes: turned, the one with patience waits for the other and both come home. */
    private static final String HELPED = "c2 9;s0 1 9 2;k0 1 0 1 99;k1 0 0 1 3;";

    private static void decreeIfNobodyIsOnIt() {
        Due.saying("part 3", "DECREE: the STREET that, turned now (if nobody is ON it), makes ALL HOME for n soonest together");
        DecreedStreets x = Due.of(HELPED);
        Due.is("as it is", x.allHome(60, 1), 9 + 60);
        Due.is("decree(60)", x.decree(60), 0);
        Due.is("turn(0)", x.turn(0), 1);
        Due.is("turned", x.allHome(60, 1), 9 + 18);
        x = Due.of("c2 9;s0 1 9 2;k0 1 0 1 99;k1 0 2 1 9;k1 0 2 1 9;");
        x.law(0, 4);
        x.minute(1);
        Due.is("one is ON it: turned with him, it would bring him to A", x.decree(60), Due.NONE);
    }

    private static void decreeNoneBetter() {
        Due.saying("part 3", "NONE, if none is better than as it is");
        DecreedStreets x = Due.of(HELPED);
        Due.is("in nine minutes nobody is HOME", x.decree(9), Due.NONE);
        Due.is("in ten one, whoever", x.decree(10), Due.NONE);
        Due.is("in 18 the second one is not", x.decree(18), Due.NONE);
        Due.is("in 19 he is", x.decree(19), 0);
        Due.is("no streets", Due.of("c2 9;k0 1 0 1 99;").decree(300), Due.NONE);
        Due.is("no carts", Due.of("c2 9;s0 1 1 2;").decree(300), Due.NONE);
        for (int law : new int[] {1, 4}) {
            x = Due.of("c2 9;s0 1 9 " + law + ";k1 0 0 1 99;");
            Due.is("LAW " + law + " turns it back", x.decree(60), Due.NONE);
        }
    }

    private static void decreeOfLikeOnes() {
        Due.saying("part 3", "of like ones the least. THE RECORD");
        DecreedStreets x = Due.of("c4 9;s0 1 9 2;s2 3 9 2;k0 1 0 1 99;k1 0 0 1 3;k2 3 0 1 99;k3 2 0 1 3;");
        Due.is("both help by as much", x.decree(60), 0);
        x.turn(0);
        Due.is("then the other", x.decree(60), 1);
        x.turn(1);
        Due.is("then none", x.decree(60), Due.NONE);
    }

    private static void fifteenEntries() {
        Due.saying("part 3", "THE RECORD (15 at most) tells when CARTS came HOME (a minute)");
        DecreedStreets x = Due.of("c2 60;s0 1 1 0;k0 1 0 1 9;");
        x.minute(2);
        for (int i = 1; i <= 15; i++) {
            Due.is("entry " + i, x.write(0, 1), i);
        }
        Due.is("the sixteenth", x.write(0, 2), Due.FULL);
        Due.is("told(11)", x.told(11), 15);
        Due.is("judge(): the sixteenth is none", x.judge(), Due.NONE);
    }

    private static void theFirstThatIsNotSo() {
        Due.saying("part 3", "WRONG: the first that is not so now; NONE.");
        DecreedStreets x = Due.of("c2 60;s0 1 3 4;k0 1 0 1 9;k1 0 0 1 9;k1 0 0 1 99;k0 1 90 1 9;");
        Due.is("an empty RECORD", x.judge(), Due.NONE);
        x.minute(12);
        x.write(0, 3);
        Due.is("so", x.judge(), Due.NONE);
        x.write(0, 2);
        Due.is("a minute less", x.judge(), 1);
        x.write(0, 4);
        Due.is("the first of two", x.judge(), 1);
        x.tear();
        for (int k = 1; k <= 3; k++) {
            x.write(k, Math.max(0, x.cart(k, 7)));
            Due.is("INN, WAITS, ahead: cart " + k, x.judge(), 0);
            x.tear();
        }
        for (int i = 0; i < 14; i++) {
            x.write(0, 3);
        }
        x.write(0, 4);
        Due.is("the fifteenth", x.judge(), 14);
    }

    private static long drawn(long seed) {
        return (seed * 1103515245L + 12345L) % 2147483648L;
    }

    private static void seedAtItsEnds() {
        Due.saying("part 3", "THE SEED (0 at first: each DRAW it becomes it times 1103515245 and 12345, left over by 2 to the 31");
        DecreedStreets x = Due.of("c2 60;");
        x.drift(1);
        Due.is("from 0", x.seed(2147483647), 12345);
        x.drift(1);
        Due.is("from 2147483647", x.seed(1), drawn(2147483647L));
        x.drift(300);
        long seed = 1;
        for (int i = 0; i < 300; i++) {
            seed = drawn(seed);
        }
        Due.is("300 draws", x.seed(0), seed);
    }

    private static void drawsOfStreets() {
        Due.saying("part 3", "the DRAW of n is it / 65536, left over by n): n MINUTES: ahead of each a DRAW of 4: on 0 a DRAW of STREETS");
        for (int streets = 1; streets <= 9; streets++) {
            DecreedStreets x = Due.of("c2 60;" + "s0 1 9 2;".repeat(streets));
            int[] goes = new int[streets];
            long seed = 99 * streets;
            x.seed((int) seed);
            for (int t = 0; t < 40; t++) {
                seed = drawn(seed);
                if (seed / 65536 % 4 == 0) {
                    seed = drawn(seed);
                    goes[(int) (seed / 65536 % streets)] ^= 1;
                }
                x.drift(1);
            }
            for (int s = 0; s < streets; s++) {
                Due.is("street(" + s + ", 4) of " + streets, x.street(s, 4), goes[s]);
            }
            Due.is("the seed with " + streets, x.seed(0), seed);
        }
    }

    private static void drawsWithoutStreets() {
        Due.saying("part 3", "a DRAW of STREETS (if there are any)");
        DecreedStreets x = Due.of("c2 60;");
        long seed = 0;
        int zeros = 0;
        for (int i = 0; i < 50; i++) {
            seed = drawn(seed);
            zeros += seed / 65536 % 4 == 0 ? 1 : 0;
        }
        Due.is("drift(50)", x.drift(50), 0);
        Due.is("50 draws alone, though 0 came " + zeros + " times", x.seed(0), seed);
        Due.is("0 came", zeros > 0 ? 1 : 0, 1);
    }

    private static void drawsIfNobodyIsOnIt() {
        Due.saying("part 3", "turns, if nobody is ON it.");
        int turned = 0;
        for (int first = 0; first < 40; first++) {
            DecreedStreets x = Due.of("c2 60;s0 1 9 2;k0 1 0 1 9;");
            x.minute(1);
            x.seed(first * 1000003);
            x.drift(8);
            Due.is("one is ON it", x.street(0, 4), 0);
            x.drift(1);
            Due.is("he is HOME, not at A", x.cart(0, 5), 3);
            x.drift(8);
            turned += x.street(0, 4);
        }
        Due.is("then it turned now and then", turned > 5 && turned < 35 ? 1 : 0, 1);
    }

    private static void imagesKeep() {
        Due.saying("part 3", "IMAGES 0, 1 keep minutes, how STREETS GO, CARTS (RANKS, too), LAWS, THE SEED.");
        DecreedStreets x = Due.of("c2 60;s0 1 5 0;s0 1 6 0;k0 1 0 1 9;k1 0 1 2 9;");
        x.minute(2);
        x.turn(1);
        x.law(1, 3);
        x.rank(1, 7);
        x.seed(2147483647);
        x.rut(0, 0, 0);
        x.write(0, 5);
        x.keep(1);
        x.minute(20);
        x.law(1, 1);
        x.rank(1, 8);
        x.turn(0);
        x.seed(0);
        x.rut(0, 0, 0);
        x.tear();
        x.write(1, 3);
        Due.is("goBack(1)", x.goBack(1), 1);
        int[] due = {2, 5, 2, 0, 1, 1, 3, 7, 1, 1, 2147483647};
        int[] got = {x.told(5), x.street(0, 2), x.cart(0, 5), x.street(0, 4), x.street(1, 4), x.street(0, 5), x.street(1, 3),
            x.cart(1, 3), x.cart(1, 8), x.foremost(0, 1), x.seed(1)};
        for (int i = 0; i < due.length; i++) {
            Due.is("what image 1 kept, " + i, got[i], due[i]);
        }
        Due.is("RUTS are in no image", x.told(10), 0);
        Due.is("THE RECORD is in no image", x.told(11), 1);
        Due.is("goBack(0)", x.goBack(0), Due.NOT);
    }
}
