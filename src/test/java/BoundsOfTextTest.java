import java.util.Random;

/** The boundary cases that part 1 of the document names: the bounds of each number of a clause, the faults and their letters. */
public final class BoundsOfTextTest {
    public static void main(String[] args) {
        twoHundredAndFiftyLetters();
        cornersAndHalf();
        firstAndOnce();
        streetsAtMost();
        numbersOfAStreet();
        cartsAtMost();
        numbersOfACart();
        oneToThreeFigures();
        wordsOfOneLetter();
        blanks();
        numbersSideBySide();
        theFirstLetter();
        theEnd();
        theLeastFault();
        cannotStandThere();
        outOfBounds();
        cornersThatThereAreNot();
        tooMany();
        likeOnes();
        anEmptyText();
        eachLetterAtEachPlace();
        cutAndTornTexts();
        Due.end();
    }

    private static DecreedStreets reads(String text, int corners) {
        DecreedStreets x = new DecreedStreets();
        Due.feedAll(x, text);
        Due.is("city() of '" + text + "'", x.city(), corners);
        Due.is("fault() of '" + text + "'", x.fault(), Due.NONE);
        Due.is("told(0) of '" + text + "'", x.told(0), corners);
        return x;
    }

    private static void fails(String text, int number, int letter) {
        DecreedStreets x = new DecreedStreets();
        Due.feedAll(x, text);
        Due.is("city() of '" + text + "'", x.city(), -10 - number);
        Due.is("fault() of '" + text + "'", x.fault(), letter);
        Due.is("told(0) of '" + text + "'", x.told(0), 0);
    }

    private static void twoHundredAndFiftyLetters() {
        Due.saying("part 1", "THE CITY is told in a text (250 letters at most)");
        DecreedStreets x = reads("c2 1;" + " ".repeat(236) + "s0 1 9 4;", 2);
        Due.is("told(1): the last letter counts", x.told(1), 1);
        fails("c2 1;" + " ".repeat(237) + "s0 1 9 4", 1, 250);
        fails("c2 1;" + " ".repeat(244) + "x", 1, 249);
        x = new DecreedStreets();
        Due.feedAll(x, "c2 1;" + " ".repeat(245));
        Due.is("letter 251", x.feed('x'), Due.FULL);
        Due.is("city(): letter 251 is not in it", x.city(), 2);
    }

    private static void cornersAndHalf() {
        Due.saying("part 1", "(CORNERS 0 .. N less 1, N 2 .. 7; HALF an hour has H minutes, 1 .. 60; first, once)");
        for (int n = 0; n <= 12; n++) {
            if (n < 2 || n > 7) {
                fails("c" + n + " 1;", 2, 1);
            } else {
                DecreedStreets x = reads("c" + n + " 1;", n);
                Due.is("far to the last corner of " + n, x.far(0, n - 1), Due.NONE);
                Due.is("far to corner " + n, x.far(0, n), Due.UNKNOWN);
            }
        }
        for (int h : new int[] {0, 1, 2, 59, 60, 61, 62, 100, 999}) {
            if (h < 1 || h > 60) {
                fails("c2 " + h + ";", 2, 3);
            } else {
                Due.is("told(3) of H " + h, reads("c2 " + h + ";", 2).told(3), h);
            }
        }
    }

    private static void firstAndOnce() {
        Due.saying("part 1", "first, once)");
        fails("s0 1 1 0;c2 1;", 1, 0);
        fails("k0 1 0 1 0;c2 1;", 1, 0);
        fails("c2 1;c2 1;", 3, 5);
        fails("c2 1;s0 1 1 0;c3 1;", 3, 14);
    }

    private static String streets(int count) {
        return "c2 1;" + "s0 1 1 0;".repeat(count);
    }

    private static void streetsAtMost() {
        Due.saying("part 1", "(9 STREETS at most, from CORNER A to another one B");
        Due.is("told(1): none", reads(streets(0), 2).told(1), 0);
        Due.is("told(1): eight", reads(streets(8), 2).told(1), 8);
        Due.is("told(1): nine", reads(streets(9), 2).told(1), 9);
        fails(streets(10), 3, streets(9).length());
        for (int corner = 0; corner < 3; corner++) {
            DecreedStreets x = reads("c4 1;s" + corner + " 3 1 0;", 4);
            Due.is("A", x.street(0, 0), corner);
            Due.is("B", x.street(0, 1), 3);
        }
        fails("c4 1;s3 3 1 0;", 4, 8);
    }

    private static void numbersOfAStreet() {
        Due.saying("part 1", "L minutes long, 1 .. 9; LAW W 0 .. 4)");
        for (int length = 0; length <= 11; length++) {
            String text = "c2 1;s0 1 " + length + " 0;";
            if (length < 1 || length > 9) {
                fails(text, 2, 10);
            } else {
                Due.is("L", reads(text, 2).street(0, 2), length);
            }
        }
        for (int law = 0; law <= 6; law++) {
            String text = "c2 1;s0 1 1 " + law + ";";
            if (law > 4) {
                fails(text, 2, 12);
            } else {
                Due.is("LAW", reads(text, 2).street(0, 3), law);
            }
        }
    }

    private static String carts(int count) {
        return "c2 1;" + "k0 1 0 1 0;".repeat(count);
    }

    private static void cartsAtMost() {
        Due.saying("part 1", "(6 CARTS at most: from CORNER F to another one T");
        Due.is("told(2): none", reads(carts(0), 2).told(2), 0);
        Due.is("told(2): five", reads(carts(5), 2).told(2), 5);
        Due.is("told(2): six", reads(carts(6), 2).told(2), 6);
        fails(carts(7), 3, carts(6).length());
        DecreedStreets x = reads("c7 1;k6 0 0 1 0;k0 6 0 1 0;", 7);
        Due.is("F", x.cart(0, 0), 6);
        Due.is("T", x.cart(1, 1), 6);
        fails("c7 1;k6 6 0 1 0;", 4, 8);
    }

    private static void numbersOfACart() {
        Due.saying("part 1", "starts at minute M, 0 .. 200; RANK R 1 .. 9; PATIENCE P 0 .. 99)");
        numberOfACart("k0 1 ", " 1 0;", 0, 200, 2, 10);
        numberOfACart("k0 1 0 ", " 0;", 1, 9, 3, 12);
        numberOfACart("k0 1 0 1 ", ";", 0, 99, 4, 14);
    }

    private static void numberOfACart(String before, String behind, int least, int most, int what, int letter) {
        for (int value : new int[] {least - 1, least, least + 1, most - 1, most, most + 1, most + 2, 999}) {
            String text = "c2 1;" + before + value + behind;
            if (value < 0) {
                fails(text, 1, letter);
            } else if (value < least || value > most) {
                fails(text, 2, letter);
            } else {
                Due.is("cart(0, " + what + ") of " + text, reads(text, 2).cart(0, what), value);
            }
        }
    }

    private static void oneToThreeFigures() {
        Due.saying("part 1", "NUMBERS have one to three figures");
        reads("c2 1;", 2);
        reads("c02 01;", 2);
        DecreedStreets x = reads("c002 001;s000 001 009 004;k000 001 200 009 099;", 2);
        Due.is("L of three figures", x.street(0, 2), 9);
        Due.is("M of three figures", x.cart(0, 2), 200);
        Due.is("P of three figures", x.cart(0, 4), 99);
        fails("c0002 1;", 2, 1);
        fails("c2 0001;", 2, 3);
        fails("c2 1;s0000 1 1 0;", 2, 6);
        fails("c2 1;k0 1 0000 1 0;", 2, 10);
        fails("c2 4294967297;", 2, 3);
        fails("c4294967298 1;", 2, 1);
        fails("c2 1;s0 1 1 0" + "0".repeat(237), 2, 12);
        fails("c;", 1, 1);
    }

    private static void wordsOfOneLetter() {
        Due.saying("part 1", "a word is one letter");
        fails("cc2 1;", 1, 1);
        fails("c2 1;ss0 1 1 0;", 1, 6);
        fails("c2 1;street0 1 1 0;", 1, 6);
        fails("c2 1;kk0 1 0 1 0;", 1, 6);
        fails("c2 1;S0 1 1 0;", 1, 5);
        fails("c2 1;K0 1 0 1 0;", 1, 5);
    }

    private static void blanks() {
        Due.saying("part 1", "blanks (32) may stand anywhere but within NUMBERS");
        DecreedStreets x = reads("   c   2   1   ;   s   0   1   9   4   ;   k   0   1   200   9   99   ;   ", 2);
        Due.is("told(1)", x.told(1), 1);
        Due.is("told(2)", x.told(2), 1);
        x = reads("c2 1;s0 1 9 4;k0 1 200 9 99;", 2);
        Due.is("M without blanks but those needed", x.cart(0, 2), 200);
        fails("c2 6 0;", 1, 5);
        fails("c2 1;k0 1 2 00 9 99;", 2, 12);
        for (int letter : new int[] {0, 9, 10, 13, 31, 33, 160, 255}) {
            fails("c2 1" + (char) letter + ";", 1, 4);
            fails("c2" + (char) letter + "1;", 1, 2);
            fails((char) letter + "c2 1;", 1, 0);
            fails("c2 1;" + (char) letter, 1, 5);
        }
    }

    private static void numbersSideBySide() {
        Due.saying("part 1", "two NUMBERS side by side need one.");
        reads("c2 1;", 2);
        reads("c2  1;", 2);
        fails("c21;", 2, 1);
        fails("c02;", 1, 3);
        fails("c2 1;s01 1 0;", 4, 9);
        fails("c2 1;s01 0 11;", 2, 11);
    }

    private static void theFirstLetter() {
        Due.saying("part 1", "FAULTS, at the first letter that has one");
        fails("c8 61;", 2, 1);
        fails("c8x", 2, 1);
        fails("c2 61x", 2, 3);
        fails("c2 1;s1 1 10 5;", 4, 8);
        fails("c2 1;s2 2 10 5;", 2, 6);
        fails("c2 1;s0 1 10 5;c", 2, 10);
        fails("c2 1;c8 61;", 3, 5);
        fails("c2 1 c8 61;", 1, 5);
        fails("xc2 1;", 1, 0);
    }

    private static void theEnd() {
        Due.saying("part 1", "(the end at the text's length)");
        String whole = "c2 1;s0 1 1 0;k0 1 0 1 0;";
        for (int length = 1; length < whole.length(); length++) {
            String text = whole.substring(0, length);
            if (text.endsWith(";")) {
                reads(text, 2);
                reads(text + "  ", 2);
            } else {
                fails(text, 1, length);
                fails(text + "   ", 1, length + 3);
            }
        }
    }

    private static void theLeastFault() {
        Due.saying("part 1", "of these the least");
        fails("c2 c", 1, 3);
        fails(streets(9) + "s", 3, streets(9).length());
        fails("c2 1;s0 s", 1, 8);
        fails("c2 1;s0 0000 1 0;", 2, 8);
        fails("c2 1;k1 0001 1 1 1;", 2, 8);
        fails("s", 1, 0);
    }

    private static void cannotStandThere() {
        Due.saying("part 1", "1 it cannot stand there (a letter that is no word, another word first than 'c').");
        for (int letter = 0; letter < 256; letter++) {
            if (letter != 'c' && letter != ' ') {
                fails((char) letter + "", 1, 0);
            }
            if ("csk ".indexOf(letter) < 0) {
                fails("c2 1;" + (char) letter, 1, 5);
            }
            if (letter != ';' && letter != ' ' && (letter < '0' || letter > '9')) {
                fails("c2 1" + (char) letter, 1, 4);
            }
        }
        fails("c2 1;;", 1, 5);
        fails("c2 1;9", 1, 5);
        fails("c2 1;s;", 1, 6);
        fails("c2 1;s0 1 1;", 1, 11);
        fails("c2 1;s0 1 1 0 0;", 1, 14);
        fails("c2 1;k0 1 0 1;", 1, 13);
        fails("c2 1;k0 1 0 1 0 0;", 1, 16);
    }

    private static void outOfBounds() {
        Due.saying("part 1", "2 a NUMBER of four figures or more, or out of its bounds");
        fails("c999 1;", 2, 1);
        fails("c2 1000;", 2, 3);
        fails("c2 1;s0 1 999 0;", 2, 10);
        fails("c2 1;s0 1 1 999;", 2, 12);
        fails("c2 1;k0 1 201 1 0;", 2, 10);
        fails("c2 1;k0 1 0 0 0;", 2, 12);
        fails("c2 1;k0 1 0 1 100;", 2, 14);
        fails("c2 1;k0 1 0 1 0099;", 2, 14);
    }

    private static void cornersThatThereAreNot() {
        Due.saying("part 1", "a CORNER that there is not (at its first).");
        for (int n = 2; n <= 7; n++) {
            reads("c" + n + " 1;s" + (n - 1) + " 0 1 0;k0 " + (n - 1) + " 0 1 0;", n);
            fails("c" + n + " 1;s" + n + " 0 1 0;", 2, 6);
            fails("c" + n + " 1;s0 " + n + " 1 0;", 2, 8);
            fails("c" + n + " 1;k" + n + " 0 0 1 0;", 2, 6);
            fails("c" + n + " 1;k0 00" + n + " 0 1 0;", 2, 8);
        }
        fails("c3 1;s  12 0 1 0;", 2, 8);
    }

    private static void tooMany() {
        Due.saying("part 1", "3 'c' again, a tenth 's', a seventh 'k' (at it).");
        fails("c2 1;  c", 3, 7);
        fails(streets(9) + " s0 1 1 0;", 3, streets(9).length() + 1);
        fails(streets(9) + "k0 1 0 1 0;s", 3, streets(9).length() + 11);
        fails(carts(6) + "k", 3, carts(6).length());
        fails(carts(6) + "s0 1 1 0; k0 1 0 1 0;", 3, carts(6).length() + 10);
        Due.is("nine and six", reads(streets(9) + carts(6).substring(5), 2).told(2), 6);
    }

    private static void likeOnes() {
        Due.saying("part 1", "4 B like A, T like F (at the second).");
        for (int corner = 0; corner < 3; corner++) {
            fails("c3 1;s" + corner + " " + corner + " 1 0;", 4, 8);
            fails("c3 1;s" + corner + "   00" + corner + " 1 0;", 4, 10);
            fails("c3 1;k" + corner + " " + corner + " 0 1 0;", 4, 8);
            fails("c3 1;k0" + corner + " " + corner + " 0 1 0;", 4, 9);
        }
        reads("c3 1;s1 2 1 1;k2 1 1 1 1;", 3);
        reads("c2 2;", 2);
    }

    private static void anEmptyText() {
        Due.saying("part 1", "An empty text: no CORNERS.");
        reads("", 0);
        reads("    ", 0);
        DecreedStreets x = Due.of("c3 4;s0 1 1 0;k0 1 0 1 0;");
        Due.is("city() of no letters", x.city(), 0);
        for (int what = 0; what <= 11; what++) {
            Due.is("told(" + what + ")", x.told(what), 0);
        }
    }

    private static void asPlainlyRead(DecreedStreets x, String text) {
        PlainReader plain = new PlainReader(text);
        Due.feedAll(x, text);
        Due.is("city() of '" + text + "'", x.city(), plain.fault == 0 ? plain.corners() : -10 - plain.fault);
        Due.is("fault() of '" + text + "'", x.fault(), plain.letter);
    }

    private static void eachLetterAtEachPlace() {
        Due.saying("part 1", "FAULTS, at the first letter that has one (the end at the text's length), of these the least");
        String whole = "c3 12;s0 1 2 0; k0 2 19 5 9;";
        for (int place = 0; place < whole.length(); place++) {
            for (int letter = 0; letter < 256; letter++) {
                char put = (char) letter;
                asPlainlyRead(new DecreedStreets(), whole.substring(0, place) + put + whole.substring(place + 1));
                asPlainlyRead(new DecreedStreets(), whole.substring(0, place) + put + whole.substring(place));
            }
        }
    }

    /** Letters out, put in, twice, and others: always the same chances. */
    private static void cutAndTornTexts() {
        Due.saying("part 1", "FAULTS, at the first letter that has one (the end at the text's length), of these the least");
        Random random = new Random(5);
        String whole = "c5 60;s0 1 9 4;s1 4 1 0; k0 2 200 9 99;k4 3 0 1 0;";
        String letters = "cskx;; 00123456789";
        for (int i = 0; i < 20000; i++) {
            StringBuilder text = new StringBuilder(whole);
            for (int changes = 1 + random.nextInt(4); changes > 0 && text.length() > 0; changes--) {
                int place = random.nextInt(text.length());
                char letter = letters.charAt(random.nextInt(letters.length()));
                switch (random.nextInt(4)) {
                    case 0 -> text.deleteCharAt(place);
                    case 1 -> text.insert(place, letter);
                    case 2 -> text.setCharAt(place, letter);
                    default -> text.append(text.substring(place, Math.min(text.length(), place + 12)));
                }
            }
            asPlainlyRead(new DecreedStreets(), text.toString());
        }
    }
}
