import java.util.ArrayList;
import java.util.List;

/**
 * The document's words once more, as slow and as literal as can be: minute by minute, with
 * nothing kept that can be looked up. Only what changes or tries something; refusals are left out.
 */
final class PlainStreets {
    static final class Street {
        int a, b, length, law, goes;

        Street copy() {
            Street s = new Street();
            s.a = a;
            s.b = b;
            s.length = length;
            s.law = law;
            s.goes = goes;
            return s;
        }
    }

    static final class Cart {
        int number, from, to, start, rank, patience;
        int how, place, since = -1, waited, trip = -1;
        boolean never;

        Cart copy() {
            Cart k = new Cart();
            k.number = number;
            k.from = from;
            k.to = to;
            k.start = start;
            k.rank = rank;
            k.patience = patience;
            k.how = how;
            k.place = place;
            k.since = since;
            k.waited = waited;
            k.trip = trip;
            k.never = never;
            return k;
        }
    }

    int corners, half, minute;
    long seed;
    List<Street> streets = new ArrayList<>();
    List<Cart> carts = new ArrayList<>();

    PlainStreets copy() {
        PlainStreets p = new PlainStreets();
        p.corners = corners;
        p.half = half;
        p.minute = minute;
        p.seed = seed;
        for (Street s : streets) {
            p.streets.add(s.copy());
        }
        for (Cart k : carts) {
            p.carts.add(k.copy());
        }
        return p;
    }

    int far(int a, int b) {
        int[] best = new int[corners];
        java.util.Arrays.fill(best, 9999);
        best[a] = 0;
        for (int i = 0; i < corners; i++) {
            for (Street s : streets) {
                best[s.b] = Math.min(best[s.b], best[s.a] + s.length);
                best[s.a] = Math.min(best[s.a], best[s.b] + s.length);
            }
        }
        return best[b] >= 9999 ? -1 : best[b];
    }

    int next(int corner, int to) {
        int whole = far(corner, to);
        for (int i = 0; i < streets.size() && whole > 0; i++) {
            Street s = streets.get(i);
            if (s.a == corner && far(s.b, to) == whole - s.length || s.b == corner && far(s.a, to) == whole - s.length) {
                return i;
            }
        }
        return -1;
    }

    List<Cart> waiting(int s, int side) {
        List<Cart> all = new ArrayList<>();
        for (Cart k : carts) {
            int corner = side == 0 ? streets.get(s).a : streets.get(s).b;
            if (k.how == 1 && k.place == corner && next(corner, k.to) == s) {
                all.add(k);
            }
        }
        all.sort((x, y) -> x.rank != y.rank ? y.rank - x.rank : x.since != y.since ? x.since - y.since : x.number - y.number);
        return all;
    }

    int on(int s) {
        int set = 0;
        for (Cart k : carts) {
            set |= k.how == 2 && k.place == s ? 1 << k.number : 0;
        }
        return set;
    }

    int those(int how) {
        int set = 0;
        for (Cart k : carts) {
            set |= k.how == how ? 1 << k.number : 0;
        }
        return set;
    }

    int minutes(int n, boolean byDraws) {
        int before = Integer.bitCount(those(3));
        for (int i = 0; i < n; i++) {
            if (byDraws && draw(4) == 0 && !streets.isEmpty()) {
                int s = draw(streets.size());
                streets.get(s).goes ^= on(s) == 0 ? 1 : 0;
            }
            oneMinute();
        }
        return Integer.bitCount(those(3)) - before;
    }

    private int draw(int n) {
        seed = (seed * 1103515245L + 12345L) % 2147483648L;
        return (int) (seed / 65536 % n);
    }

    private void oneMinute() {
        int t = minute;
        for (Cart k : carts) {
            if (k.how == 2 && t == k.since + streets.get(k.place).length) {
                Street s = streets.get(k.place);
                k.place = s.goes == 0 ? s.b : s.a;
                k.since = t;
                k.how = k.place == k.to ? 3 : 1;
                k.trip = k.how == 3 ? t - k.start : -1;
            }
        }
        for (Cart k : carts) {
            if (k.how == 0 && k.start == t && !k.never) {
                k.how = next(k.from, k.to) < 0 ? 4 : 1;
                k.since = t;
            }
        }
        for (int s = 0; s < streets.size(); s++) {
            serve(s);
        }
        for (Cart k : carts) {
            if (k.how == 1 && ++k.waited > k.patience) {
                k.how = 4;
                k.since = t;
            }
        }
        minute++;
    }

    private void serve(int number) {
        Street s = streets.get(number);
        List<Cart> atA = waiting(number, 0);
        List<Cart> atB = waiting(number, 1);
        if (on(number) == 0) {
            if (s.law == 0 && atA.size() + atB.size() > 0) {
                s.goes = longest(atA) <= longest(atB) ? 0 : 1;
            } else if (s.law == 1) {
                s.goes = minute / half % 2 == 0 ? 0 : 1;
            } else if (s.law == 2 && atA.size() != atB.size()) {
                s.goes = atA.size() > atB.size() ? 0 : 1;
            } else if (s.law == 3) {
                int a = atA.isEmpty() ? 0 : atA.get(0).rank;
                int b = atB.isEmpty() ? 0 : atB.get(0).rank;
                s.goes = a > b ? 0 : b > a ? 1 : s.goes;
            } else if (s.law == 4) {
                s.goes = 0;
            }
        }
        List<Cart> side = s.goes == 0 ? atA : atB;
        if (!side.isEmpty()) {
            Cart k = side.get(0);
            k.how = 2;
            k.place = number;
            k.since = minute;
        }
    }

    private static int longest(List<Cart> side) {
        int least = Integer.MAX_VALUE;
        for (Cart k : side) {
            least = Math.min(least, k.since);
        }
        return least;
    }

    int toll() {
        int sum = 0;
        for (Cart k : carts) {
            sum += k.waited;
        }
        return sum;
    }

    /** Minutes together behind n minutes, but for one cart's. */
    int together(int n, int leftOut) {
        PlainStreets p = copy();
        p.minutes(n, false);
        int sum = 0;
        for (Cart k : p.carts) {
            sum += k.number == leftOut ? 0 : k.how == 3 ? k.start + k.trip : p.minute;
        }
        return sum;
    }

    int howManyHome(int n) {
        PlainStreets p = copy();
        p.minutes(n, false);
        return Integer.bitCount(p.those(3));
    }

    /** For each corner the fewest bought, minute by minute; -1 for never. Nothing is sold for foreseen. */
    private int[][] byMinute(int a, int m, int n, boolean sells) {
        int[][] fewest = new int[n + 1][corners];
        for (int[] row : fewest) {
            java.util.Arrays.fill(row, 9999);
        }
        fewest[0][a] = 0;
        for (int i = 0; i <= n; i++) {
            for (int c = 0; c < corners; c++) {
                if (i > 0) {
                    fewest[i][c] = Math.min(fewest[i][c], fewest[i - 1][c]);
                }
                for (Street s : streets) {
                    int price = price(s, c, m + i, sells);
                    if (i + s.length <= n && price < 9999 && fewest[i][c] < 9999) {
                        int end = s.a == c ? s.b : s.a;
                        fewest[i + s.length][end] = Math.min(fewest[i + s.length][end], fewest[i][c] + price);
                    }
                }
            }
        }
        return fewest;
    }

    private int price(Street s, int corner, int t, boolean sells) {
        if (s.a != corner && s.b != corner) {
            return 9999;
        }
        int side = s.a == corner ? 0 : 1;
        if (s.law == 4) {
            return side == 0 ? 0 : 9999;
        }
        return s.law != 1 || t / half % 2 == side ? 0 : sells ? 1 : 9999;
    }

    int foreseen(int a, int b, int m) {
        int[][] fewest = byMinute(a, m, 300, false);
        for (int i = 0; i <= 300; i++) {
            if (fewest[i][b] == 0) {
                return m + i;
            }
        }
        return -1;
    }

    int bought(int a, int b, int m, int n) {
        int fewest = byMinute(a, m, n, true)[n][b];
        return fewest >= 9999 ? -1 : fewest;
    }

    /** How much, then the rank of each. */
    int[] ranks(int n) {
        List<Integer> left = new ArrayList<>();
        for (Cart k : carts) {
            left.add(k.rank);
        }
        int[] best = new int[1 + carts.size()];
        best[0] = Integer.MAX_VALUE;
        give(copy(), 0, left, n, best);
        return best;
    }

    private static void give(PlainStreets p, int k, List<Integer> left, int n, int[] best) {
        if (left.isEmpty()) {
            int sum = p.together(n, -1);
            boolean isBetter = sum < best[0];
            for (int i = 0; i < k && sum == best[0] && !isBetter; i++) {
                if (p.carts.get(i).rank > best[1 + i]) {
                    break;
                }
                isBetter = p.carts.get(i).rank < best[1 + i];
            }
            if (isBetter) {
                best[0] = sum;
                for (int i = 0; i < k; i++) {
                    best[1 + i] = p.carts.get(i).rank;
                }
            }
            return;
        }
        for (int i = 0; i < left.size(); i++) {
            List<Integer> rest = new ArrayList<>(left);
            p.carts.get(k).rank = rest.remove(i);
            give(p, k + 1, rest, n, best);
        }
    }

    int bestLaw(int n, int only) {
        int best = -1;
        int least = 0;
        for (int w = 4; w >= 0; w--) {
            int sum = withLaw(only, w).together(n, -1);
            if (best < 0 || sum <= least) {
                best = w;
                least = sum;
            }
        }
        return best;
    }

    private PlainStreets withLaw(int only, int w) {
        PlainStreets p = copy();
        for (int s = 0; s < p.streets.size(); s++) {
            p.streets.get(s).law = only < 0 || only == s ? w : p.streets.get(s).law;
        }
        return p;
    }

    int lost() {
        PlainStreets p = copy();
        p.minutes(300, false);
        return p.those(0) | p.those(1) | p.those(2);
    }

    int costs(int k, int n) {
        PlainStreets without = copy();
        without.carts.get(k).never = true;
        return together(n, k) - without.together(n, k);
    }

    int decree(int n) {
        int best = -1;
        int least = together(n, -1);
        for (int s = 0; s < streets.size(); s++) {
            PlainStreets p = copy();
            p.streets.get(s).goes ^= 1;
            if (on(s) == 0 && p.together(n, -1) < least) {
                least = p.together(n, -1);
                best = s;
            }
        }
        return best;
    }

    /** Ruts are street, minute, way. */
    int laws(int s, List<int[]> ruts) {
        int set = 0;
        for (int w = 0; w < 5; w++) {
            boolean fits = true;
            for (int[] rut : ruts) {
                PlainStreets p = withLaw(s, w);
                p.minutes(rut[1] + 1, false);
                fits &= rut[0] != s || p.streets.get(s).goes == rut[2];
            }
            set |= fits ? 1 << w : 0;
        }
        return set;
    }

    int judge(List<int[]> record) {
        for (int i = 0; i < record.size(); i++) {
            Cart k = carts.get(record.get(i)[0]);
            if (k.how != 3 || k.since != record.get(i)[1]) {
                return i;
            }
        }
        return -1;
    }
}
