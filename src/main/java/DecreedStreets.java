/**
 * Streets that turn their direction by decree. The document DOC.md says, as numbered promises,
 * what each public method answers; words in capitals here are words of that document.
 */
public final class DecreedStreets {
    public static final int NONE = -1, UNKNOWN = -1000000001, OUTSIDE = -1000000002, NOT = -1000000003, FULL = -1000000004;

    private static final int LAWS_IN_ALL = 5, LAST_MINUTE = 90000, MOST_TRIED = 300, IMAGES = 2;

    private City city = new City();
    private City draft = new City();
    private final Reader reader = new Reader();
    private final Traffic now = new Traffic(city);
    private final Traffic tried = new Traffic(city);
    private final Traffic[] images = {new Traffic(city), new Traffic(city)};
    private final boolean[] kept = new boolean[IMAGES];
    private final Way way = new Way(now);
    private final Shuffle shuffle = new Shuffle(now, tried);
    private final Notes ruts = new Notes(8);
    private final Notes record = new Notes(15);

    public DecreedStreets() {
    }

    // ---- the city

    public int feed(int letter) {
        if (isOutside(letter, 0, 255)) {
            return OUTSIDE;
        }
        return reader.add(letter) ? reader.count : FULL;
    }

    public int city() {
        int number = reader.readInto(draft);
        if (number != 0) {
            return -10 - number;
        }
        City read = draft;
        draft = city;
        city = read;
        now.begin(city);
        ruts.count = 0;
        record.count = 0;
        kept[0] = false;
        kept[1] = false;
        shuffle.forget();
        return city.corners;
    }

    public int fault() {
        return reader.faultAt;
    }

    public int told(int what) {
        switch (what) {
            case 0: return city.corners;
            case 1: return city.streets;
            case 2: return city.carts;
            case 3: return city.half;
            case 4: return reader.count;
            case 5: return now.minute;
            case 6: return now.those(Traffic.HOME);
            case 7: return now.those(Traffic.INN);
            case 8: return now.those(Traffic.WAITS);
            case 9: return now.toll();
            case 10: return ruts.count;
            case 11: return record.count;
            default: return OUTSIDE;
        }
    }

    public int far(int a, int b) {
        if (isNoCorner(a) || isNoCorner(b)) {
            return UNKNOWN;
        }
        int minutes = city.distance(a, b);
        return minutes < City.NO_WAY ? minutes : NONE;
    }

    public int street(int s, int what) {
        if (isNoStreet(s)) {
            return UNKNOWN;
        }
        switch (what) {
            case 0: return city.endA[s];
            case 1: return city.endB[s];
            case 2: return city.length[s];
            case 3: return now.law[s];
            case 4: return now.goes[s];
            case 5: return now.on[s];
            default: return OUTSIDE;
        }
    }

    public int cart(int k, int what) {
        if (isNoCart(k)) {
            return UNKNOWN;
        }
        switch (what) {
            case 0: return city.from[k];
            case 1: return city.to[k];
            case 2: return city.start[k];
            case 3: return now.rank[k];
            case 4: return city.patience[k];
            case 5: return now.how[k];
            case 6: return now.place[k];
            case 7: return now.since[k];
            case 8: return now.waited[k];
            case 9: return now.how[k] == Traffic.HOME ? now.since[k] - city.start[k] : NONE;
            default: return OUTSIDE;
        }
    }

    public int next(int k) {
        if (isNoCart(k)) {
            return UNKNOWN;
        }
        return now.how[k] == Traffic.WAITS ? city.nextStreet(now.place[k], city.to[k]) : NONE;
    }

    public int foremost(int s, int side) {
        if (isNoStreet(s)) {
            return UNKNOWN;
        }
        if (isOutside(side, 0, 1)) {
            return OUTSIDE;
        }
        return now.firstOf(now.waiting[2 * s + side]);
    }

    // ---- what is done

    public int minute(int n) {
        int refusal = refusalOfMinutes(n);
        if (refusal != 0) {
            return refusal;
        }
        int before = now.countHome();
        now.pass(n);
        shuffle.forget();
        return now.countHome() - before;
    }

    public int drift(int n) {
        int refusal = refusalOfMinutes(n);
        if (refusal != 0) {
            return refusal;
        }
        int before = now.countHome();
        now.passByDraws(n);
        shuffle.forget();
        return now.countHome() - before;
    }

    public int turn(int s) {
        if (isNoStreet(s)) {
            return UNKNOWN;
        }
        if (now.on[s] != 0) {
            return NOT;
        }
        now.goes[s] = 1 - now.goes[s];
        shuffle.forget();
        return now.goes[s];
    }

    public int law(int s, int w) {
        if (isNoStreet(s) || isOutside(w, 0, LAWS_IN_ALL - 1)) {
            return UNKNOWN;
        }
        int before = now.law[s];
        now.law[s] = w;
        shuffle.forget();
        return before;
    }

    public int rank(int k, int r) {
        if (isNoCart(k)) {
            return UNKNOWN;
        }
        if (isOutside(r, 1, 9)) {
            return OUTSIDE;
        }
        int before = now.rank[k];
        now.rank[k] = r;
        shuffle.forget();
        return before;
    }

    // ---- tried

    public int allHome(int n, int what) {
        if (isOutside(n, 1, MOST_TRIED) || isOutside(what, 0, 1)) {
            return OUTSIDE;
        }
        tried.copyFrom(now);
        tried.pass(n);
        return what == 0 ? tried.countHome() : tried.together(NONE);
    }

    public int foreseen(int a, int b, int m) {
        if (isNoCorner(a) || isNoCorner(b)) {
            return UNKNOWN;
        }
        if (isOutside(m, 0, 999)) {
            return OUTSIDE;
        }
        way.setOut(a, m);
        way.spread();
        return way.soonest[b] <= m + MOST_TRIED ? way.soonest[b] : NONE;
    }

    public int bought(int a, int b, int m, int n) {
        if (isNoCorner(a) || isNoCorner(b)) {
            return UNKNOWN;
        }
        if (isOutside(m, 0, 999) || isOutside(n, 0, 300)) {
            return OUTSIDE;
        }
        way.setOut(a, m);
        return way.fewestBought(b, m + n);
    }

    public int ranks(int n, int k) {
        if (k != NONE && isNoCart(k)) {
            return UNKNOWN;
        }
        if (isOutside(n, 1, MOST_TRIED)) {
            return OUTSIDE;
        }
        shuffle.find(n);
        return k == NONE ? shuffle.least : shuffle.best[k];
    }

    public int bestLaw(int n, int s) {
        if (s != NONE && isNoStreet(s)) {
            return UNKNOWN;
        }
        if (isOutside(n, 1, MOST_TRIED)) {
            return OUTSIDE;
        }
        int best = 0;
        int least = Traffic.LATER;
        for (int w = 0; w < LAWS_IN_ALL; w++) {
            tried.copyFrom(now);
            tried.decreeLaw(s, w);
            tried.pass(n);
            int together = tried.together(NONE);
            if (together < least) {
                least = together;
                best = w;
            }
        }
        return best;
    }

    public int lost() {
        tried.copyFrom(now);
        tried.pass(MOST_TRIED);
        int all = (1 << city.carts) - 1;
        return all & ~tried.those(Traffic.HOME) & ~tried.those(Traffic.INN);
    }

    public int costs(int k, int n) {
        if (isNoCart(k)) {
            return UNKNOWN;
        }
        if (isOutside(n, 1, MOST_TRIED)) {
            return OUTSIDE;
        }
        if (now.how[k] != Traffic.AHEAD) {
            return NOT;
        }
        tried.copyFrom(now);
        tried.pass(n);
        int with = tried.together(k);
        tried.copyFrom(now);
        tried.how[k] = Traffic.INN; // he takes no part from there
        tried.pass(n);
        return with - tried.together(k);
    }

    public int decree(int n) {
        if (isOutside(n, 1, MOST_TRIED)) {
            return OUTSIDE;
        }
        tried.copyFrom(now);
        tried.pass(n);
        int least = tried.together(NONE);
        int best = NONE;
        for (int s = 0; s < city.streets; s++) {
            if (now.on[s] == 0) {
                tried.copyFrom(now);
                tried.goes[s] = 1 - tried.goes[s];
                tried.pass(n);
                int together = tried.together(NONE);
                if (together < least) {
                    least = together;
                    best = s;
                }
            }
        }
        return best;
    }

    // ---- ruts, records, images

    public int rut(int s, int t, int way) {
        if (isNoStreet(s)) {
            return UNKNOWN;
        }
        if (isOutside(t, 0, 99) || isOutside(way, 0, 1)) {
            return OUTSIDE;
        }
        return ruts.add(s, t, way) ? ruts.count : FULL;
    }

    public int laws(int s) {
        if (isNoStreet(s)) {
            return UNKNOWN;
        }
        int fitting = 0;
        for (int w = 0; w < LAWS_IN_ALL; w++) {
            if (fitsRuts(s, w)) {
                fitting |= 1 << w;
            }
        }
        return fitting;
    }

    public int write(int k, int t) {
        if (isNoCart(k)) {
            return UNKNOWN;
        }
        if (isOutside(t, 0, 99999)) {
            return OUTSIDE;
        }
        return record.add(k, t, 0) ? record.count : FULL;
    }

    public int tear() {
        int both = ruts.count + record.count;
        ruts.count = 0;
        record.count = 0;
        return both;
    }

    public int judge() {
        for (int i = 0; i < record.count; i++) {
            int k = record.whose[i];
            if (now.how[k] != Traffic.HOME || now.since[k] != record.minute[i]) {
                return i;
            }
        }
        return NONE;
    }

    public int seed(int v) {
        if (v < 0) {
            return OUTSIDE;
        }
        int before = now.seed;
        now.seed = v;
        return before;
    }

    public int keep(int i) {
        if (isOutside(i, 0, IMAGES - 1)) {
            return UNKNOWN;
        }
        images[i].copyFrom(now);
        kept[i] = true;
        return 1;
    }

    public int goBack(int i) {
        if (isOutside(i, 0, IMAGES - 1)) {
            return UNKNOWN;
        }
        if (!kept[i]) {
            return NOT;
        }
        now.copyFrom(images[i]);
        shuffle.forget();
        return 1;
    }

    // ---- refusals and helpers

    private static boolean isOutside(int value, int least, int most) {
        return value < least || value > most;
    }

    private boolean isNoCorner(int corner) {
        return isOutside(corner, 0, city.corners - 1);
    }

    private boolean isNoStreet(int s) {
        return isOutside(s, 0, city.streets - 1);
    }

    private boolean isNoCart(int k) {
        return isOutside(k, 0, city.carts - 1);
    }

    private int refusalOfMinutes(int n) {
        if (isOutside(n, 1, 300)) {
            return OUTSIDE;
        }
        if (city.corners == 0) {
            return NOT;
        }
        return now.minute > LAST_MINUTE ? FULL : 0;
    }

    private boolean fitsRuts(int s, int w) {
        tried.copyFrom(now);
        tried.decreeLaw(s, w);
        int minutes = ruts.minutesOf(s);
        for (int t = 0; t < minutes; t++) {
            tried.pass(1);
            if (!ruts.agree(s, t, tried.goes[s])) {
                return false;
            }
        }
        return true;
    }

    /** Corners, streets and carts as THE TEXT told them; none of it changes till the next city. */
    static final class City {
        static final int MOST_CORNERS = 7, MOST_STREETS = 9, MOST_CARTS = 6, NO_WAY = 1000;

        int corners;
        int half;
        int streets;
        int carts;
        final int[] endA = new int[MOST_STREETS];
        final int[] endB = new int[MOST_STREETS];
        final int[] length = new int[MOST_STREETS];
        final int[] firstLaw = new int[MOST_STREETS];
        final int[] from = new int[MOST_CARTS];
        final int[] to = new int[MOST_CARTS];
        final int[] start = new int[MOST_CARTS];
        final int[] firstRank = new int[MOST_CARTS];
        final int[] patience = new int[MOST_CARTS];
        private final int[] apart = new int[MOST_CORNERS * MOST_CORNERS];
        private final int[] leading = new int[MOST_CORNERS * MOST_CORNERS];

        void clear() {
            corners = 0;
            half = 0;
            streets = 0;
            carts = 0;
        }

        int distance(int a, int b) {
            return apart[a * MOST_CORNERS + b];
        }

        int nextStreet(int corner, int target) {
            return leading[corner * MOST_CORNERS + target];
        }

        /** Where one comes to by a street from one of its ends; NONE from elsewhere. */
        int otherEnd(int s, int corner) {
            if (endA[s] == corner) {
                return endB[s];
            }
            return endB[s] == corner ? endA[s] : NONE;
        }

        int sideOf(int s, int corner) {
            return endA[s] == corner ? 0 : 1;
        }

        void measure() {
            for (int a = 0; a < corners; a++) {
                for (int b = 0; b < corners; b++) {
                    apart[a * MOST_CORNERS + b] = a == b ? 0 : NO_WAY;
                }
            }
            for (int s = 0; s < streets; s++) {
                shorten(endA[s], endB[s], length[s]);
                shorten(endB[s], endA[s], length[s]);
            }
            for (int over = 0; over < corners; over++) {
                for (int a = 0; a < corners; a++) {
                    for (int b = 0; b < corners; b++) {
                        shorten(a, b, distance(a, over) + distance(over, b));
                    }
                }
            }
            lead();
        }

        private void shorten(int a, int b, int minutes) {
            if (minutes < distance(a, b)) {
                apart[a * MOST_CORNERS + b] = minutes;
            }
        }

        private void lead() {
            for (int corner = 0; corner < corners; corner++) {
                for (int target = 0; target < corners; target++) {
                    leading[corner * MOST_CORNERS + target] = leastNearer(corner, target);
                }
            }
        }

        private int leastNearer(int corner, int target) {
            int minutes = distance(corner, target);
            if (minutes >= NO_WAY) {
                return NONE;
            }
            for (int s = 0; s < streets; s++) {
                int end = otherEnd(s, corner);
                if (end != NONE && length[s] + distance(end, target) == minutes) {
                    return s;
                }
            }
            return NONE;
        }
    }

    /** THE TEXT, and how it is read, up to its first FAULT. */
    static final class Reader {
        static final int MOST_LETTERS = 250;

        int count;
        int faultAt = NONE;
        private final int[] letters = new int[MOST_LETTERS];
        private int at;
        private int numberAt;
        private int faultNumber;

        boolean add(int letter) {
            if (count >= MOST_LETTERS) {
                return false;
            }
            letters[count] = letter;
            count++;
            return true;
        }

        /** Answers the number of the FAULT, 0 without one; THE TEXT is empty then. */
        int readInto(City city) {
            city.clear();
            at = 0;
            faultNumber = 0;
            faultAt = NONE;
            skipBlanks();
            for (int clause = 0; clause < MOST_LETTERS && faultNumber == 0 && at < count; clause++) {
                readClause(city);
                skipBlanks();
            }
            if (faultNumber == 0) {
                city.measure();
            }
            count = 0;
            return faultNumber;
        }

        private void readClause(City city) {
            int word = letters[at];
            if (city.corners == 0 && word != 'c') {
                fail(1, at);
            } else if (word == 'c') {
                readCorners(city);
            } else if (word == 's') {
                readStreet(city);
            } else if (word == 'k') {
                readCart(city);
            } else {
                fail(1, at);
            }
        }

        private void readCorners(City city) {
            takeWord(city.corners == 0);
            int corners = readNumber(2, 7);
            int half = readNumber(1, 60);
            readEnd();
            if (faultNumber == 0) {
                city.corners = corners;
                city.half = half;
            }
        }

        private void readStreet(City city) {
            int s = city.streets;
            takeWord(s < City.MOST_STREETS);
            int a = readNumber(0, city.corners - 1);
            int b = readOther(a, city.corners);
            int length = readNumber(1, 9);
            int law = readNumber(0, 4);
            readEnd();
            if (faultNumber == 0) {
                city.endA[s] = a;
                city.endB[s] = b;
                city.length[s] = length;
                city.firstLaw[s] = law;
                city.streets = s + 1;
            }
        }

        private void readCart(City city) {
            int k = city.carts;
            takeWord(k < City.MOST_CARTS);
            int from = readNumber(0, city.corners - 1);
            int to = readOther(from, city.corners);
            int start = readNumber(0, 200);
            int rank = readNumber(1, 9);
            int patience = readNumber(0, 99);
            readEnd();
            if (faultNumber == 0) {
                city.from[k] = from;
                city.to[k] = to;
                city.start[k] = start;
                city.firstRank[k] = rank;
                city.patience[k] = patience;
                city.carts = k + 1;
            }
        }

        private void takeWord(boolean hasRoom) {
            if (hasRoom) {
                at++;
            } else {
                fail(3, at);
            }
        }

        private int readOther(int first, int corners) {
            int second = readNumber(0, corners - 1);
            if (faultNumber == 0 && second == first) {
                fail(4, numberAt);
            }
            return second;
        }

        private int readNumber(int least, int most) {
            if (faultNumber != 0) {
                return 0;
            }
            skipBlanks();
            numberAt = at;
            int value = 0;
            for (; at < count && isFigure(letters[at]); at++) {
                if (at - numberAt < 3) {
                    value = value * 10 + letters[at] - '0';
                }
            }
            if (at == numberAt) {
                fail(1, at);
            } else if (at - numberAt > 3 || value < least || value > most) {
                fail(2, numberAt);
            }
            return value;
        }

        private void readEnd() {
            if (faultNumber != 0) {
                return;
            }
            skipBlanks();
            if (at < count && letters[at] == ';') {
                at++;
            } else {
                fail(1, at);
            }
        }

        private void skipBlanks() {
            for (; at < count && letters[at] == ' '; at++) {
            }
        }

        private static boolean isFigure(int letter) {
            return letter >= '0' && letter <= '9';
        }

        private void fail(int which, int letter) {
            if (faultNumber == 0) {
                faultNumber = which;
                faultAt = letter;
            }
        }
    }

    /** All that minutes change: what an IMAGE keeps, and what is tried on a copy. */
    static final class Traffic {
        static final int AHEAD = 0, WAITS = 1, ON = 2, HOME = 3, INN = 4;
        /** Later than any minute, and more than any minutes together. */
        static final int LATER = 1000000000;

        City city;
        int minute;
        int seed;
        final int[] law = new int[City.MOST_STREETS];
        final int[] goes = new int[City.MOST_STREETS];
        final int[] on = new int[City.MOST_STREETS];
        final int[] waiting = new int[2 * City.MOST_STREETS];
        final int[] rank = new int[City.MOST_CARTS];
        final int[] how = new int[City.MOST_CARTS];
        final int[] place = new int[City.MOST_CARTS];
        final int[] since = new int[City.MOST_CARTS];
        final int[] waited = new int[City.MOST_CARTS];

        Traffic(City firstCity) {
            begin(firstCity);
        }

        /** THE SEED stays as it is. */
        void begin(City newCity) {
            city = newCity;
            minute = 0;
            for (int s = 0; s < City.MOST_STREETS; s++) {
                law[s] = city.firstLaw[s];
                goes[s] = 0;
                on[s] = 0;
                waiting[2 * s] = 0;
                waiting[2 * s + 1] = 0;
            }
            for (int k = 0; k < City.MOST_CARTS; k++) {
                rank[k] = city.firstRank[k];
                how[k] = AHEAD;
                place[k] = city.from[k];
                since[k] = NONE;
                waited[k] = 0;
            }
        }

        void copyFrom(Traffic other) {
            city = other.city;
            minute = other.minute;
            seed = other.seed;
            System.arraycopy(other.law, 0, law, 0, City.MOST_STREETS);
            System.arraycopy(other.goes, 0, goes, 0, City.MOST_STREETS);
            System.arraycopy(other.on, 0, on, 0, City.MOST_STREETS);
            System.arraycopy(other.waiting, 0, waiting, 0, 2 * City.MOST_STREETS);
            System.arraycopy(other.rank, 0, rank, 0, City.MOST_CARTS);
            System.arraycopy(other.how, 0, how, 0, City.MOST_CARTS);
            System.arraycopy(other.place, 0, place, 0, City.MOST_CARTS);
            System.arraycopy(other.since, 0, since, 0, City.MOST_CARTS);
            System.arraycopy(other.waited, 0, waited, 0, City.MOST_CARTS);
        }

        void decreeLaw(int street, int w) {
            for (int s = 0; s < city.streets; s++) {
                if (street == NONE || street == s) {
                    law[s] = w;
                }
            }
        }

        int those(int state) {
            int set = 0;
            for (int k = 0; k < city.carts; k++) {
                if (how[k] == state) {
                    set |= 1 << k;
                }
            }
            return set;
        }

        int countHome() {
            return Integer.bitCount(those(HOME));
        }

        int toll() {
            int sum = 0;
            for (int k = 0; k < city.carts; k++) {
                sum += waited[k];
            }
            return sum;
        }

        /** ALL HOME's minutes, but for one cart's (NONE: all of them). */
        int together(int leftOut) {
            int sum = 0;
            for (int k = 0; k < city.carts; k++) {
                if (k != leftOut) {
                    sum += how[k] == HOME ? since[k] : minute;
                }
            }
            return sum;
        }

        void pass(int n) {
            int end = minute + n;
            for (int i = 0; i < n && minute < end; i++) {
                skipIdle(end - 1);
                passOne();
            }
        }

        void passByDraws(int n) {
            for (int i = 0; i < n; i++) {
                if (draw(4) == 0 && city.streets > 0) {
                    int s = draw(city.streets);
                    if (on[s] == 0) {
                        goes[s] = 1 - goes[s];
                    }
                }
                passOne();
            }
        }

        private int draw(int n) {
            seed = (int) ((seed * 1103515245L + 12345L) & 0x7fffffffL);
            return n > 0 ? seed / 65536 % n : 0;
        }

        // In a minute in which nobody waits, starts or arrives only streets without carts turn, by
        // laws that the next minute asks anew: such minutes can be left out, but never the last one.
        private void skipIdle(int last) {
            int event = last;
            for (int k = 0; k < city.carts; k++) {
                if (how[k] == WAITS) {
                    return;
                }
                if (how[k] == AHEAD) {
                    event = Math.min(event, city.start[k]);
                } else if (how[k] == ON) {
                    event = Math.min(event, since[k] + city.length[place[k]]);
                }
            }
            minute = Math.max(minute, event);
        }

        private void passOne() {
            for (int k = 0; k < city.carts; k++) {
                if (how[k] == ON && minute - since[k] >= city.length[place[k]]) {
                    arrive(k);
                } else if (how[k] == AHEAD && city.start[k] == minute) {
                    waitAt(k, city.from[k]);
                }
            }
            for (int s = 0; s < city.streets; s++) {
                if (on[s] == 0) {
                    goes[s] = wayByLaw(s);
                }
                letIn(s);
            }
            for (int k = 0; k < city.carts; k++) {
                if (how[k] == WAITS) {
                    losePatience(k);
                }
            }
            minute++;
        }

        private void arrive(int k) {
            int s = place[k];
            on[s] &= ~(1 << k);
            int corner = goes[s] == 0 ? city.endB[s] : city.endA[s];
            if (corner == city.to[k]) {
                settle(k, HOME, corner);
            } else {
                waitAt(k, corner);
            }
        }

        private void waitAt(int k, int corner) {
            int s = city.nextStreet(corner, city.to[k]);
            if (s == NONE) {
                settle(k, INN, corner);
            } else {
                settle(k, WAITS, corner);
                waiting[2 * s + city.sideOf(s, corner)] |= 1 << k;
            }
        }

        private void settle(int k, int state, int where) {
            how[k] = state;
            place[k] = where;
            since[k] = minute;
        }

        private void letIn(int s) {
            int queue = 2 * s + goes[s];
            int k = firstOf(waiting[queue]);
            if (k != NONE) {
                waiting[queue] &= ~(1 << k);
                on[s] |= 1 << k;
                settle(k, ON, s);
            }
        }

        private void losePatience(int k) {
            waited[k]++;
            if (waited[k] > city.patience[k]) {
                int corner = place[k];
                int s = city.nextStreet(corner, city.to[k]);
                if (s != NONE) {
                    waiting[2 * s + city.sideOf(s, corner)] &= ~(1 << k);
                }
                settle(k, INN, corner);
            }
        }

        private int wayByLaw(int s) {
            int queueA = waiting[2 * s];
            int queueB = waiting[2 * s + 1];
            switch (law[s]) {
                case 0: return wayOfLongest(s, queueA, queueB);
                case 1: return city.half > 0 ? minute / city.half % 2 : goes[s];
                case 2: return wayOfMore(goes[s], Integer.bitCount(queueA), Integer.bitCount(queueB));
                case 3: return wayOfMore(goes[s], greatestRank(queueA), greatestRank(queueB));
                default: return 0;
            }
        }

        private int wayOfLongest(int s, int queueA, int queueB) {
            if ((queueA | queueB) == 0) {
                return goes[s];
            }
            return longest(queueA) <= longest(queueB) ? 0 : 1;
        }

        private static int wayOfMore(int asItGoes, int atA, int atB) {
            if (atA == atB) {
                return asItGoes;
            }
            return atA > atB ? 0 : 1;
        }

        /** Since when the one waits who waits longest; LATER with nobody. */
        private int longest(int set) {
            int least = LATER;
            for (int k = 0; k < city.carts; k++) {
                if ((set >> k & 1) == 1 && since[k] < least) {
                    least = since[k];
                }
            }
            return least;
        }

        /** The foremost goes by rank ahead of all else, so his is the greatest; 0 with nobody. */
        private int greatestRank(int set) {
            int greatest = 0;
            for (int k = 0; k < city.carts; k++) {
                if ((set >> k & 1) == 1 && rank[k] > greatest) {
                    greatest = rank[k];
                }
            }
            return greatest;
        }

        int firstOf(int set) {
            int first = NONE;
            for (int k = 0; k < city.carts && set >> k != 0; k++) {
                if ((set >> k & 1) == 1 && (first == NONE || isAheadOf(k, first))) {
                    first = k;
                }
            }
            return first;
        }

        private boolean isAheadOf(int k, int other) {
            if (rank[k] != rank[other]) {
                return rank[k] > rank[other];
            }
            return since[k] < since[other];
        }
    }

    /** The soonest minutes of a lone cart; as it may wait, to be somewhere sooner is never worse. */
    static final class Way {
        static final int NEVER = 1000000;

        final int[] soonest = new int[City.MOST_CORNERS];
        private final int[] before = new int[City.MOST_CORNERS];
        private final Traffic now;

        Way(Traffic ofNow) {
            now = ofNow;
        }

        void setOut(int corner, int minute) {
            for (int c = 0; c < City.MOST_CORNERS; c++) {
                soonest[c] = NEVER;
            }
            soonest[corner] = minute;
        }

        /** No way needs more streets than corners, so as many rounds reach all. */
        void spread() {
            boolean changed = true;
            for (int round = 0; round < City.MOST_CORNERS && changed; round++) {
                changed = false;
                for (int s = 0; s < now.city.streets; s++) {
                    changed |= goBy(s, 0);
                    changed |= goBy(s, 1);
                }
            }
        }

        /** A way as short as can be has at most six streets: more bought entries help nobody. */
        int fewestBought(int corner, int by) {
            for (int entries = 0; entries < City.MOST_CORNERS; entries++) {
                spread();
                if (soonest[corner] <= by) {
                    return entries;
                }
                buyOne();
            }
            return NONE;
        }

        private void buyOne() {
            System.arraycopy(soonest, 0, before, 0, City.MOST_CORNERS);
            for (int s = 0; s < now.city.streets; s++) {
                if (now.law[s] == 1) {
                    reach(now.city.endB[s], before[now.city.endA[s]] + now.city.length[s]);
                    reach(now.city.endA[s], before[now.city.endB[s]] + now.city.length[s]);
                }
            }
        }

        private boolean goBy(int s, int side) {
            int at = side == 0 ? now.city.endA[s] : now.city.endB[s];
            int end = side == 0 ? now.city.endB[s] : now.city.endA[s];
            if (soonest[at] >= NEVER) {
                return false;
            }
            return reach(end, entry(s, side, soonest[at]) + now.city.length[s]);
        }

        private int entry(int s, int side, int minute) {
            if (now.law[s] == 4) {
                return side == 0 ? minute : NEVER;
            }
            if (now.law[s] == 1 && now.city.half > 0) {
                int halves = minute / now.city.half;
                return halves % 2 == side ? minute : (halves + 1) * now.city.half;
            }
            return minute;
        }

        private boolean reach(int corner, int minute) {
            if (minute >= soonest[corner] || minute >= NEVER) {
                return false;
            }
            soonest[corner] = minute;
            return true;
        }
    }

    /** All ways to give the ranks anew; what was found stays till something changes. */
    static final class Shuffle {
        static final int MOST_ORDERS = 720;

        int least;
        final int[] best = new int[City.MOST_CARTS];
        private final int[] order = new int[City.MOST_CARTS];
        private final Traffic now;
        private final Traffic tried;
        private int foundFor;

        Shuffle(Traffic ofNow, Traffic toTry) {
            now = ofNow;
            tried = toTry;
        }

        void forget() {
            foundFor = 0;
        }

        void find(int n) {
            if (foundFor == n) {
                return;
            }
            int carts = now.city.carts;
            sortRanks(now.rank, carts);
            least = Traffic.LATER;
            boolean more = true;
            for (int i = 0; i < MOST_ORDERS && more; i++) {
                tried.copyFrom(now);
                System.arraycopy(order, 0, tried.rank, 0, City.MOST_CARTS);
                tried.pass(n);
                int together = tried.together(NONE);
                if (together < least) {
                    least = together;
                    System.arraycopy(order, 0, best, 0, City.MOST_CARTS);
                }
                more = goOn(carts);
            }
            foundFor = n;
        }

        private void sortRanks(int[] rank, int carts) {
            for (int k = 0; k < carts; k++) {
                int at = k;
                for (; at > 0 && order[at - 1] > rank[k]; at--) {
                    order[at] = order[at - 1];
                }
                order[at] = rank[k];
            }
        }

        /** The next order, cart by cart the lesser rank first, like ranks not told apart. */
        private boolean goOn(int carts) {
            int low = carts - 2;
            for (; low >= 0 && order[low] >= order[low + 1]; low--) {
            }
            if (low < 0) {
                return false;
            }
            int high = carts - 1;
            for (; high > low && order[high] <= order[low]; high--) {
            }
            swap(low, high);
            for (int i = low + 1, j = carts - 1; i < j; i++, j--) {
                swap(i, j);
            }
            return true;
        }

        private void swap(int i, int j) {
            int held = order[i];
            order[i] = order[j];
            order[j] = held;
        }
    }

    /** RUTS (of streets, with a way) or entries of THE RECORD (of carts). */
    static final class Notes {
        int count;
        final int[] whose;
        final int[] minute;
        final int[] way;

        Notes(int most) {
            whose = new int[most];
            minute = new int[most];
            way = new int[most];
        }

        boolean add(int newWhose, int newMinute, int newWay) {
            if (count >= whose.length) {
                return false;
            }
            whose[count] = newWhose;
            minute[count] = newMinute;
            way[count] = newWay;
            count++;
            return true;
        }

        /** How many minutes have to be tried for all the ruts of a street. */
        int minutesOf(int s) {
            int most = 0;
            for (int i = 0; i < count; i++) {
                if (whose[i] == s) {
                    most = Math.max(most, minute[i] + 1);
                }
            }
            return most;
        }

        boolean agree(int s, int t, int goes) {
            for (int i = 0; i < count; i++) {
                if (whose[i] == s && minute[i] == t && way[i] != goes) {
                    return false;
                }
            }
            return true;
        }
    }
}
