import java.util.ArrayList;
import java.util.List;
import java.util.Random;

/** Cities and calls by chance (always the same), each answer against PlainStreets. */
public final class AgainstPlainTest {
    private final Random random;
    private DecreedStreets x;
    private PlainStreets plain;
    private final List<int[]> ruts = new ArrayList<>();
    private final List<int[]> record = new ArrayList<>();
    private final PlainStreets[] images = new PlainStreets[2];
    private final String run;
    private String text;

    private AgainstPlainTest(int number) {
        random = new Random(number);
        run = "run " + number + ": ";
    }

    public static void main(String[] args) {
        int runs = args.length > 0 ? Integer.parseInt(args[0]) : 400;
        int first = args.length > 1 ? Integer.parseInt(args[1]) : 0;
        for (int i = first; i < first + runs; i++) {
            new AgainstPlainTest(i).go();
        }
        Due.end();
    }

    private int upTo(int least, int most) {
        return least + random.nextInt(most - least + 1);
    }

    private void go() {
        x = new DecreedStreets();
        plain = new PlainStreets();
        newCity();
        for (int i = 0; i < 60; i++) {
            change();
            if (random.nextInt(3) == 0) {
                askAll();
            }
            ask();
        }
        newCity();
        askAll();
    }

    private void newCity() {
        long seed = plain.seed;
        plain = new PlainStreets();
        plain.seed = seed;
        StringBuilder told = new StringBuilder();
        plain.corners = random.nextInt(3) == 0 ? 2 : upTo(2, 7);
        plain.half = random.nextBoolean() ? upTo(1, 8) : upTo(1, 60);
        told.append("c").append(plain.corners).append(' ').append(plain.half).append(';');
        int streets = upTo(random.nextInt(5) == 0 ? 0 : plain.corners - 1, 9);
        int law = random.nextInt(3) == 0 ? upTo(0, 4) : -1;
        for (int s = 0; s < streets; s++) {
            addStreet(told, law);
        }
        int carts = upTo(0, 6);
        int latest = random.nextInt(3) == 0 ? 200 : random.nextInt(12);
        int patience = random.nextInt(3) == 0 ? 3 : 99;
        for (int k = 0; k < carts; k++) {
            addCart(told, k, latest, patience);
        }
        text = told.toString();
        Due.feedAll(x, text);
        same("city()", x.city(), plain.corners);
        same("fault()", x.fault(), -1);
        ruts.clear();
        record.clear();
        images[0] = null;
        images[1] = null;
    }

    private void addStreet(StringBuilder told, int law) {
        PlainStreets.Street s = new PlainStreets.Street();
        s.a = upTo(0, plain.corners - 1);
        s.b = (s.a + upTo(1, plain.corners - 1)) % plain.corners;
        s.length = random.nextBoolean() ? upTo(1, 3) : upTo(1, 9);
        s.law = law < 0 ? upTo(0, 4) : law;
        plain.streets.add(s);
        told.append("s").append(s.a).append(' ').append(s.b).append(' ').append(s.length).append(' ').append(s.law).append(';');
    }

    private void addCart(StringBuilder told, int number, int latest, int patience) {
        PlainStreets.Cart k = new PlainStreets.Cart();
        k.number = number;
        k.from = upTo(0, plain.corners - 1);
        k.to = (k.from + upTo(1, plain.corners - 1)) % plain.corners;
        k.start = upTo(0, latest);
        k.rank = random.nextBoolean() ? upTo(1, 3) : upTo(1, 9);
        k.patience = upTo(0, patience);
        k.place = k.from;
        plain.carts.add(k);
        told.append("k").append(k.from).append(' ').append(k.to).append(' ').append(k.start).append(' ').append(k.rank)
                .append(' ').append(k.patience).append(';');
    }

    private void same(String call, int got, int want) {
        Due.is(run + call + " at " + plain.minute + " in " + text, got, want);
    }

    private int aStreet() {
        return plain.streets.isEmpty() ? -1 : random.nextInt(plain.streets.size());
    }

    private int aCart() {
        return plain.carts.isEmpty() ? -1 : random.nextInt(plain.carts.size());
    }

    private void change() {
        int s = aStreet();
        int k = aCart();
        int n = random.nextInt(4) == 0 ? upTo(1, 40) : upTo(1, 3);
        switch (random.nextInt(12)) {
            case 0, 1, 2 -> same("minute(" + n + ")", x.minute(n), plain.minutes(n, false));
            case 3 -> same("drift(" + n + ")", x.drift(n), plain.minutes(n, true));
            case 4 -> changeWay(s);
            case 5 -> changeLaw(s, upTo(0, 4));
            case 6 -> changeRank(k, upTo(1, 9));
            case 7 -> addRut(s, random.nextBoolean() ? upTo(0, 9) : upTo(0, 99), upTo(0, 1));
            case 8 -> addEntry(k, k < 0 ? 0 : random.nextInt(4) == 0 ? upTo(0, 99) : Math.max(0, plain.carts.get(k).since));
            case 9 -> keepImage(upTo(0, 1));
            case 10 -> takeImage(upTo(0, 1));
            default -> rare(upTo(0, Integer.MAX_VALUE - 1));
        }
    }

    private void rare(int v) {
        if (random.nextInt(3) == 0) {
            same("tear()", x.tear(), ruts.size() + record.size());
            ruts.clear();
            record.clear();
        } else {
            same("seed(" + v + ")", x.seed(v), (int) plain.seed);
            plain.seed = v;
        }
    }

    private void changeWay(int s) {
        if (s >= 0) {
            boolean isTaken = plain.on(s) != 0;
            plain.streets.get(s).goes ^= isTaken ? 0 : 1;
            same("turn(" + s + ")", x.turn(s), isTaken ? Due.NOT : plain.streets.get(s).goes);
        }
    }

    private void changeLaw(int s, int w) {
        if (s >= 0) {
            same("law(" + s + ", " + w + ")", x.law(s, w), plain.streets.get(s).law);
            plain.streets.get(s).law = w;
        }
    }

    private void changeRank(int k, int r) {
        if (k >= 0) {
            same("rank(" + k + ", " + r + ")", x.rank(k, r), plain.carts.get(k).rank);
            plain.carts.get(k).rank = r;
        }
    }

    private void addRut(int s, int t, int way) {
        if (s >= 0) {
            boolean isFull = ruts.size() == 8;
            if (!isFull) {
                ruts.add(new int[] {s, t, way});
            }
            same("rut(" + s + ", " + t + ", " + way + ")", x.rut(s, t, way), isFull ? Due.FULL : ruts.size());
        }
    }

    private void addEntry(int k, int t) {
        if (k >= 0) {
            boolean isFull = record.size() == 15;
            if (!isFull) {
                record.add(new int[] {k, t});
            }
            same("write(" + k + ", " + t + ")", x.write(k, t), isFull ? Due.FULL : record.size());
        }
    }

    private void keepImage(int i) {
        same("keep(" + i + ")", x.keep(i), 1);
        images[i] = plain.copy();
    }

    private void takeImage(int i) {
        same("goBack(" + i + ")", x.goBack(i), images[i] == null ? Due.NOT : 1);
        plain = images[i] == null ? plain : images[i].copy();
    }

    private void askAll() {
        int[] told = {plain.corners, plain.streets.size(), plain.carts.size(), plain.half, 0, plain.minute,
            plain.those(3), plain.those(4), plain.those(1), plain.toll(), ruts.size(), record.size()};
        for (int what = 0; what < told.length; what++) {
            same("told(" + what + ")", x.told(what), told[what]);
        }
        for (int s = 0; s < plain.streets.size(); s++) {
            askStreet(s, plain.streets.get(s));
        }
        for (PlainStreets.Cart k : plain.carts) {
            askCart(k.number, k);
        }
    }

    private void askStreet(int s, PlainStreets.Street street) {
        int[] want = {street.a, street.b, street.length, street.law, street.goes, plain.on(s)};
        for (int what = 0; what < want.length; what++) {
            same("street(" + s + ", " + what + ")", x.street(s, what), want[what]);
        }
        for (int side = 0; side < 2; side++) {
            List<PlainStreets.Cart> all = plain.waiting(s, side);
            same("foremost(" + s + ", " + side + ")", x.foremost(s, side), all.isEmpty() ? -1 : all.get(0).number);
        }
    }

    private void askCart(int k, PlainStreets.Cart cart) {
        int[] want = {cart.from, cart.to, cart.start, cart.rank, cart.patience, cart.how, cart.place, cart.since,
            cart.waited, cart.trip};
        for (int what = 0; what < want.length; what++) {
            same("cart(" + k + ", " + what + ")", x.cart(k, what), want[what]);
        }
        same("next(" + k + ")", x.next(k), cart.how == 1 ? plain.next(cart.place, cart.to) : -1);
    }

    private void ask() {
        int a = upTo(0, plain.corners - 1);
        int b = upTo(0, plain.corners - 1);
        int m = random.nextBoolean() ? upTo(0, 20) : upTo(0, 999);
        int n = random.nextBoolean() ? upTo(1, 30) : upTo(1, 300);
        int s = aStreet();
        int k = aCart();
        same("far(" + a + ", " + b + ")", x.far(a, b), plain.far(a, b));
        same("foreseen(" + a + ", " + b + ", " + m + ")", x.foreseen(a, b, m), plain.foreseen(a, b, m));
        same("bought(" + a + ", " + b + ", " + m + ", " + n + ")", x.bought(a, b, m, n), plain.bought(a, b, m, n));
        same("allHome(" + n + ", 0)", x.allHome(n, 0), plain.howManyHome(n));
        same("allHome(" + n + ", 1)", x.allHome(n, 1), plain.together(n, -1));
        same("judge()", x.judge(), plain.judge(record));
        switch (random.nextInt(14)) {
            case 0, 1 -> same("bestLaw(" + n + ", -1)", x.bestLaw(n, -1), plain.bestLaw(n, -1));
            case 2, 3 -> same("bestLaw(" + n + ", " + s + ")", x.bestLaw(n, s), plain.bestLaw(n, s));
            case 4 -> same("lost()", x.lost(), plain.lost());
            case 5, 6 -> askCosts(k, n);
            case 7, 8 -> same("decree(" + n + ")", x.decree(n), plain.decree(n));
            case 9, 10 -> same("laws(" + s + ")", x.laws(s), s < 0 ? Due.UNKNOWN : plain.laws(s, ruts));
            default -> askRanks(random.nextBoolean() ? 20 : 40);
        }
    }

    private void askCosts(int k, int n) {
        if (k >= 0) {
            boolean isAhead = plain.carts.get(k).how == 0;
            same("costs(" + k + ", " + n + ")", x.costs(k, n), isAhead ? plain.costs(k, n) : Due.NOT);
        }
    }

    private void askRanks(int n) {
        if (plain.carts.size() < 6 || random.nextInt(4) == 0) {
            int[] want = plain.ranks(n);
            for (int k = -1; k < plain.carts.size(); k++) {
                same("ranks(" + n + ", " + k + ")", x.ranks(n, k), want[1 + k]);
            }
        }
    }
}
