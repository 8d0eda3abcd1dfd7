/** Promises 16 to 23: allHome, foreseen, bought, ranks, bestLaw, lost, costs, decree. */
public final class TriedTest {
    public static void main(String[] args) {
        allHome();
        foreseen();
        bought();
        ranks();
        ranksOfEachOrder();
        ranksOfLikeOnes();
        ranksBehindEachChange();
        bestLaw();
        lost();
        costs();
        decree();
        nothingChanges();
        Due.end();
    }

    private static void allHome() {
        DecreedStreets x = Due.of("c3 9;s0 1 3 0;k0 1 0 1 9;k0 1 0 1 9;k0 2 0 1 9;k0 1 50 1 9;");
        Due.is("allHome(3, 0)", x.allHome(3, 0), 0);
        Due.is("allHome(3, 1)", x.allHome(3, 1), 12);
        Due.is("allHome(4, 0)", x.allHome(4, 0), 1);
        Due.is("allHome(4, 1)", x.allHome(4, 1), 3 + 4 + 4 + 4);
        Due.is("allHome(10, 1)", x.allHome(10, 1), 3 + 4 + 10 + 10);
        Due.is("allHome(300, 0)", x.allHome(300, 0), 3);
        Due.is("allHome(300, 1)", x.allHome(300, 1), 3 + 4 + 300 + 53);
        x.minute(10);
        Due.is("allHome(1, 0) later: who is home already, too", x.allHome(1, 0), 2);
        Due.is("allHome(1, 1) later", x.allHome(1, 1), 3 + 4 + 11 + 11);
        outsideOfN("allHome", x.allHome(0, 0), x.allHome(301, 1), x.allHome(-1, 0));
        Due.is("allHome(1, 2)", x.allHome(1, 2), Due.OUTSIDE);
        Due.is("allHome(1, -1)", x.allHome(1, -1), Due.OUTSIDE);
    }

    private static void outsideOfN(String call, int none, int many, int below) {
        Due.is(call + " of no minutes", none, Due.OUTSIDE);
        Due.is(call + " of 301 minutes", many, Due.OUTSIDE);
        Due.is(call + " of -1 minutes", below, Due.OUTSIDE);
    }

    private static void foreseen() {
        DecreedStreets x = Due.of("c6 4;s0 1 2 0;s1 2 3 1;s2 3 1 4;s0 3 9 2;s4 0 9 3;");
        Due.is("to where it is", x.foreseen(2, 2, 999), 999);
        Due.is("at once", x.foreseen(0, 2, 0), 5);
        Due.is("enters at the last minute of its half", x.foreseen(0, 2, 1), 6);
        Due.is("has to wait, or goes round", x.foreseen(0, 2, 2), 11);
        Due.is("against the hour", x.foreseen(2, 1, 0), 7);
        Due.is("at the first minute of the half", x.foreseen(2, 1, 4), 7);
        Due.is("not against LAW 4", x.foreseen(3, 2, 0), 9 + 2 + 3);
        Due.is("by LAWS 2 and 3 either way", x.foreseen(3, 4, 7), 25);
        Due.is("whatever way they go now", x.turn(3), 1);
        Due.is("by LAW 2 still", x.foreseen(0, 3, 0), 6);
        Due.is("no way", x.foreseen(0, 5, 0), Due.NONE);
        x.law(2, 0);
        Due.is("by the law of now", x.foreseen(3, 2, 0), 1);
        x.minute(30);
        Due.is("the minute of now is nothing to it", x.foreseen(2, 1, 0), 7);
        Due.is("foreseen(6, 0, 0)", x.foreseen(6, 0, 0), Due.UNKNOWN);
        Due.is("foreseen(0, -1, 0)", x.foreseen(0, -1, 0), Due.UNKNOWN);
        Due.is("foreseen(6, 0, -1)", x.foreseen(6, 0, -1), Due.UNKNOWN);
        Due.is("foreseen(0, 1, -1)", x.foreseen(0, 1, -1), Due.OUTSIDE);
        Due.is("foreseen(0, 1, 1000)", x.foreseen(0, 1, 1000), Due.OUTSIDE);
        Due.is("foreseen(0, 1, 999)", x.foreseen(0, 1, 999), 1001);
        foreseenAtMost();
    }

    /** Each second street goes the other way, so nearly each costs a half of 60 minutes. */
    private static void foreseenAtMost() {
        DecreedStreets x = Due.of("c7 60;s1 0 1 1;s1 2 1 1;s3 2 1 1;s3 4 1 1;s5 4 1 1;s5 6 1 1;");
        Due.is("entered at 60, 120, 180", x.foreseen(0, 3, 0), 181);
        Due.is("entered at 240", x.foreseen(0, 4, 0), 241);
        Due.is("301 minutes later are too many", x.foreseen(0, 5, 0), Due.NONE);
        Due.is("300 minutes later are not", x.foreseen(0, 5, 1), 301);
        Due.is("361 minutes later", x.foreseen(0, 6, 0), Due.NONE);
    }

    private static void bought() {
        DecreedStreets x = Due.of("c7 60;s1 0 1 1;s1 2 1 1;s3 2 1 1;s3 4 1 1;s5 4 1 1;s5 6 1 1;");
        Due.is("one each second", x.bought(0, 6, 0, 6), 3);
        Due.is("too soon", x.bought(0, 6, 0, 5), Due.NONE);
        Due.is("two bought are too slow", x.bought(0, 6, 0, 120), 3);
        Due.is("two bought, two halves waited", x.bought(0, 6, 0, 121), 2);
        Due.is("one bought, then the hour", x.bought(0, 6, 0, 300), 1);
        Due.is("none bought", x.bought(0, 5, 1, 300), 0);
        Due.is("a minute less", x.bought(0, 5, 1, 299), 1);
        Due.is("there already", x.bought(3, 3, 5, 0), 0);
        Due.is("not there already", x.bought(3, 4, 5, 0), Due.NONE);
        Due.is("bought(7, 0, 0, 0)", x.bought(7, 0, 0, 0), Due.UNKNOWN);
        Due.is("bought(0, 7, -1, 0)", x.bought(0, 7, -1, 0), Due.UNKNOWN);
        Due.is("bought(0, 1, -1, 0)", x.bought(0, 1, -1, 0), Due.OUTSIDE);
        Due.is("bought(0, 1, 1000, 0)", x.bought(0, 1, 1000, 0), Due.OUTSIDE);
        Due.is("bought(0, 1, 0, -1)", x.bought(0, 1, 0, -1), Due.OUTSIDE);
        Due.is("bought(0, 1, 0, 301)", x.bought(0, 1, 0, 301), Due.OUTSIDE);
        x = Due.of("c7 60;s1 0 1 1;s2 1 1 1;s3 2 1 1;s4 3 1 1;s5 4 1 1;s6 5 1 1;");
        Due.is("six bought", x.bought(0, 6, 0, 6), 6);
        Due.is("no need with the hour", x.bought(0, 6, 60, 6), 0);
        x = Due.of("c3 60;s1 0 1 4;s1 2 1 1;");
        Due.is("LAW 4 is not for sale", x.bought(0, 1, 0, 300), Due.NONE);
    }

    private static void ranks() {
        DecreedStreets x = Due.of("c2 9;s0 1 3 0;k0 1 0 9 99;k0 1 0 1 0;k0 1 0 5 1;");
        Due.is("as it is one gives up", x.allHome(30, 1), 3 + 30 + 4);
        Due.is("who has no patience goes first", x.ranks(30, -1), 3 + 4 + 5);
        Due.is("ranks(30, 0)", x.ranks(30, 0), 1);
        Due.is("ranks(30, 1)", x.ranks(30, 1), 9);
        Due.is("ranks(30, 2)", x.ranks(30, 2), 5);
        x = Due.of("c2 9;s0 1 3 0;k0 1 0 9 0;k0 1 0 7 1;k0 1 0 2 99;");
        Due.is("as it is", x.allHome(30, 1), 3 + 4 + 5);
        Due.is("ranks(30, -1)", x.ranks(30, -1), 12);
        Due.is("ranks(30, 0)", x.ranks(30, 0), 9);
        Due.is("ranks(30, 1)", x.ranks(30, 1), 7);
        Due.is("ranks(30, 2)", x.ranks(30, 2), 2);
        x.rank(0, 1);
        Due.is("ranks of other ranks", x.ranks(30, 0), 7);
        Due.is("ranks of other ranks", x.ranks(30, 1), 2);
        Due.is("ranks of other ranks", x.ranks(30, 2), 1);
        x = Due.of("c2 9;s0 1 3 0;k0 1 0 9 9;k0 1 0 9 9;k0 1 0 2 9;");
        Due.is("of like ones the first", x.ranks(30, 0), 2);
        Due.is("of like ones the first", x.ranks(30, 1), 9);
        Due.is("of like ones the first", x.ranks(30, 2), 9);
        Due.is("ranks(1, -1)", x.ranks(1, -1), 3);
        outsideOfN("ranks", x.ranks(0, -1), x.ranks(301, 0), x.ranks(-1, 2));
        Due.is("ranks(30, 3)", x.ranks(30, 3), Due.UNKNOWN);
        Due.is("ranks(0, 3)", x.ranks(0, 3), Due.UNKNOWN);
        Due.is("ranks(30, -2)", x.ranks(30, -2), Due.UNKNOWN);
    }

    /** Each has just the patience for his place, so one order alone brings all home. */
    private static void ranksOfEachOrder() {
        int orders = 0;
        for (int code = 0; code < 5 * 5 * 5 * 5 * 5; code++) {
            int[] place = {code % 5, code / 5 % 5, code / 25 % 5, code / 125 % 5, code / 625};
            int seen = 0;
            StringBuilder text = new StringBuilder("c2 9;s0 1 3 0;");
            for (int k = 0; k < 5; k++) {
                seen |= 1 << place[k];
                text.append("k0 1 0 ").append(5 - k).append(' ').append(place[k]).append(';');
            }
            if (seen == 31) {
                orders++;
                DecreedStreets x = Due.of(text.toString());
                Due.is("all home in " + text, x.ranks(50, -1), 3 + 4 + 5 + 6 + 7);
                for (int k = 0; k < 5; k++) {
                    Due.is("ranks(50, " + k + ") in " + text, x.ranks(50, k), 5 - place[k]);
                }
            }
        }
        Due.is("orders", orders, 120);
        DecreedStreets x = Due.of("c2 9;s0 1 3 0;k0 1 0 1 0;k0 1 0 2 1;k0 1 0 3 2;k0 1 0 4 3;k0 1 0 5 4;k0 1 0 6 5;");
        Due.is("the last of 720 orders", x.ranks(50, -1), 3 + 4 + 5 + 6 + 7 + 8);
        for (int k = 0; k < 6; k++) {
            Due.is("ranks(50, " + k + ")", x.ranks(50, k), 6 - k);
        }
    }

    /** Ranks 2, 2, 1, 1, 1: the two without much patience have to get the greater ones. */
    private static void ranksOfLikeOnes() {
        for (int hurried = 0; hurried < 32; hurried++) {
            if (Integer.bitCount(hurried) == 2) {
                StringBuilder text = new StringBuilder("c2 9;s0 1 3 0;");
                for (int k = 0; k < 5; k++) {
                    text.append("k0 1 0 ").append(k < 2 ? 2 : 1).append((hurried >> k & 1) == 1 ? " 1;" : " 99;");
                }
                DecreedStreets x = Due.of(text.toString());
                Due.is("all home in " + text, x.ranks(50, -1), 3 + 4 + 5 + 6 + 7);
                for (int k = 0; k < 5; k++) {
                    Due.is("ranks(50, " + k + ") in " + text, x.ranks(50, k), 1 + (hurried >> k & 1));
                }
            }
        }
    }

    /** The same question again and again: what was found must not outlive what it was found for. */
    private static void ranksBehindEachChange() {
        DecreedStreets x = Due.of("c2 4;s0 1 3 0;k0 1 0 9 99;k0 1 0 1 0;k1 0 1 5 9;");
        Due.is("at first", x.ranks(30, -1), 3 + 4 + 7);
        x.law(0, 4);
        Due.is("behind law", x.ranks(30, -1), 3 + 4 + 30);
        x.law(0, 0);
        x.keep(0);
        Due.is("behind law again", x.ranks(30, -1), 3 + 4 + 7);
        Due.is("ranks(30, 0)", x.ranks(30, 0), 1);
        x.rank(0, 2);
        x.rank(2, 2);
        Due.is("behind rank, for one minute", x.ranks(1, 2), 2);
        Due.is("behind rank: the rank of 1", x.ranks(30, 1), 2);
        Due.is("behind rank: the rank of 0", x.ranks(30, 0), 1);
        x.minute(1);
        Due.is("behind minute: one has given up", x.ranks(30, -1), 3 + 31 + 6);
        x.goBack(0);
        Due.is("behind goBack", x.ranks(30, -1), 3 + 4 + 7);
        x.drift(1);
        Due.is("behind drift", x.ranks(30, -1), 3 + 31 + 6);
        Due.feedAll(x, "c2 4;s0 1 3 2;k0 1 0 9 99;k1 0 0 1 0;");
        x.city();
        Due.is("behind city", x.ranks(30, -1), 3 + 30);
        Due.is("behind city: of 0", x.ranks(30, 0), 1);
        x.rank(1, 9);
        x.minute(1);
        x.goBack(0);
        Due.feedAll(x, "c2 4;s0 1 3 2;k0 1 1 9 99;k1 0 1 1 99;k1 0 2 1 1;");
        x.city();
        Due.is("ahead of turn", x.ranks(30, -1), 4 + 7 + 30);
        x.turn(0);
        Due.is("behind turn", x.ranks(30, -1), 4 + 5 + 8);
    }

    private static void bestLaw() {
        DecreedStreets x = Due.of("c2 5;s0 1 2 0;k1 0 0 1 99;k0 1 0 1 99;");
        Due.is("all laws but 1 and 4 are alike", x.bestLaw(30, -1), 0);
        x = Due.of("c2 5;s0 1 9 4;k1 0 0 9 99;k0 1 0 1 99;k1 0 0 1 99;k1 0 0 1 99;");
        Due.is("by how many wait", x.bestLaw(60, -1), 2);
        Due.is("by how many wait, for the one", x.bestLaw(60, 0), 2);
        x.rank(1, 9);
        x.rank(0, 1);
        Due.is("of like ones the least", x.bestLaw(1, 0), 0);
        x = Due.of("c3 50;s0 1 9 3;s1 2 9 3;k0 1 0 1 99;k1 0 0 9 0;k2 1 0 1 99;");
        Due.is("one street: others as they are", x.bestLaw(90, 1), 0);
        Due.is("one street: by rank, as one has no patience", x.bestLaw(90, 0), 3);
        outsideOfN("bestLaw", x.bestLaw(0, -1), x.bestLaw(301, 0), x.bestLaw(-1, 1));
        Due.is("bestLaw(30, 2)", x.bestLaw(30, 2), Due.UNKNOWN);
        Due.is("bestLaw(0, 2)", x.bestLaw(0, 2), Due.UNKNOWN);
        Due.is("bestLaw(30, -2)", x.bestLaw(30, -2), Due.UNKNOWN);
    }

    /** He waits at most a hundred minutes and drives at most six streets of nine: 354 from 200 on. */
    private static void lost() {
        DecreedStreets x = Due.of("c7 60;s0 1 9 1;s1 2 9 1;s2 3 9 1;s3 4 9 1;s4 5 9 1;s6 5 9 1;k6 0 200 1 99;k0 1 200 1 99;k1 0 200 1 99;k1 6 0 1 99;");
        Due.is("lost()", x.lost(), 1);
        x.minute(1);
        Due.is("lost() a minute later", x.lost(), 1);
        x.minute(54);
        Due.is("lost() much later", x.lost(), 0);
    }

    private static void costs() {
        DecreedStreets x = Due.of("c2 9;s0 1 3 0;k0 1 0 9 9;k0 1 0 1 9;k1 0 1 9 9;k1 0 0 1 0;");
        Due.is("costs(0, 30)", x.costs(0, 30), (4 + 7 + 30) - (3 + 6 + 30));
        Due.is("costs(1, 30)", x.costs(1, 30), (3 + 7 + 30) - (3 + 6 + 30));
        Due.is("costs(2, 30)", x.costs(2, 30), 0);
        Due.is("costs(3, 30)", x.costs(3, 30), 0);
        x.minute(1);
        Due.is("costs(0, 30): started", x.costs(0, 30), Due.NOT);
        Due.is("costs(1, 30): started", x.costs(1, 30), Due.NOT);
        Due.is("costs(3, 30): started", x.costs(3, 30), Due.NOT);
        Due.is("costs(2, 30)", x.costs(2, 30), 0);
        outsideOfN("costs", x.costs(2, 0), x.costs(0, 301), x.costs(0, -1));
        Due.is("costs(4, 0)", x.costs(4, 0), Due.UNKNOWN);
        Due.is("costs(-1, 30)", x.costs(-1, 30), Due.UNKNOWN);
        x = Due.of("c2 9;s0 1 9 2;k0 1 0 1 99;k1 0 0 1 99;k1 0 0 9 0;");
        Due.is("below 0: without him the street goes from A", x.costs(1, 60), (19 + 9) - (9 + 60));
    }

    private static void decree() {
        DecreedStreets x = Due.of("c2 9;s0 1 9 2;k0 1 0 1 99;k1 0 0 1 3;k1 0 3 1 99;");
        Due.is("as it is", x.allHome(99, 1), 9 + 99 + 18);
        Due.is("decree(99): turned, all come home", x.decree(99), 0);
        x.turn(0);
        Due.is("turned", x.allHome(99, 1), 9 + 12 + 21);
        Due.is("decree(99): none is better", x.decree(99), Due.NONE);
        x.turn(0);
        x.minute(1);
        Due.is("decree(99): somebody is ON it", x.decree(99), Due.NONE);
        x = Due.of("c4 9;s0 1 9 2;s2 3 1 2;k0 1 0 1 99;k1 0 0 1 3;k2 3 0 1 99;k3 2 0 1 0;");
        Due.is("as it is", x.allHome(60, 1), 9 + 60 + 1 + 60);
        Due.is("the first helps by 51 - 9, the second by 59 - 1", x.decree(60), 1);
        x = Due.of("c4 9;s2 3 1 2;s0 1 9 2;k0 1 0 1 99;k1 0 0 1 3;k2 3 0 1 99;k3 2 0 1 0;");
        Due.is("the other way round", x.decree(60), 0);
        x = Due.of("c4 9;s2 3 9 2;s0 1 9 2;k0 1 0 1 99;k1 0 0 1 3;k2 3 0 1 99;k3 2 0 1 0;");
        Due.is("of like ones the least", x.decree(60), 0);
        x = Due.of("c2 9;s0 1 9 1;s0 1 8 4;k1 0 0 1 99;");
        Due.is("decree(99): laws that turn it back", x.decree(99), Due.NONE);
        Due.is("decree(1)", x.decree(1), Due.NONE);
        outsideOfN("decree", x.decree(0), x.decree(301), x.decree(-1));
    }

    private static void nothingChanges() {
        DecreedStreets x = Due.of("c3 4;s0 1 2 0;s1 2 3 1;k0 2 0 5 99;k2 0 0 3 99;k2 0 4 7 20;");
        x.minute(2);
        String before = picture(x);
        x.allHome(300, 1);
        x.foreseen(0, 2, 3);
        x.bought(0, 2, 3, 9);
        x.ranks(50, 1);
        x.bestLaw(50, -1);
        x.bestLaw(50, 1);
        x.lost();
        x.costs(2, 50);
        x.decree(50);
        x.laws(1);
        Due.is("what is tried changes nothing: " + before + " " + picture(x), before.equals(picture(x)) ? 1 : 0, 1);
    }

    private static String picture(DecreedStreets x) {
        StringBuilder all = new StringBuilder();
        for (int what = 0; what < 12; what++) {
            all.append(x.told(what)).append(' ');
        }
        for (int s = 0; s < x.told(1); s++) {
            for (int what = 0; what < 6; what++) {
                all.append(x.street(s, what)).append(' ');
            }
        }
        for (int k = 0; k < x.told(2); k++) {
            for (int what = 0; what < 10; what++) {
                all.append(x.cart(k, what)).append(' ');
            }
        }
        return all.toString();
    }
}
