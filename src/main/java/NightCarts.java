/** A city to which night is delivered in carts. What each call answers stands in the project's document. */
public final class NightCarts {
    public static final int NONE = -1;

    private static final int NOT_SO = -2;
    private static final int NOT_TOLD = -3;
    private static final int NO_SUCH_PLACE = -4;

    private static final int STREETS = 14;
    private static final int PIT = 0;
    private static final int MOST_HOUSES = 99;
    private static final int MOST_LAMPS = 9;
    private static final int MOST_STARS = 99;
    private static final int DEEPEST = 999;
    private static final int CARTS = 5;
    private static final int MOST_ROOM = 99;

    private static final int HOURS = 10;
    private static final int MINUTES_OF_HOUR = 60;
    private static final int MINUTES_OF_NIGHT = 600;
    private static final int LAST_NIGHT = 9999;
    private static final int MOST_NIGHTS = 20;

    private static final int TAPE_ROOM = 260;
    private static final int FED_AT_ONCE = 20;
    private static final int MOST_ROADS_BYTES = 200;
    private static final int MOST_LINES = 40;
    private static final int MOST_PLAN_BYTES = 80;
    private static final int MOST_STOPS = 16;
    private static final int MOST_LAW_BYTES = 240;
    private static final int MOST_CLAUSES = 16;

    private static final int MOST_IN_ROUND = 7;
    private static final int MOST_IN_SHARE = 6;
    private static final int MOST_SHARE_YARDS = 600;
    private static final int MOST_IN_SLEEPFUL = 8;
    private static final int MOST_SLEEPFUL_YARDS = 300;
    private static final int MOST_OUT = 5;
    private static final int MOST_JOBS = 8;
    private static final int MOST_JOB_CARTS = 3;
    private static final int MOST_HEAPS = 8;
    private static final int MOST_BRIDES = 6;
    private static final int MOST_THIEVES = 10;
    private static final int MOST_MISSING = 2550;
    private static final int MOST_LATEST = 6;

    private static final int CANNOT_STAND = 1;
    private static final int TOO_MANY = 4;

    private static final int THE_WHOLE = 20;
    private static final int IN_ALL = 10;

    private final Tape tape;
    private final City city;
    private final Roads roads;
    private final Law law;
    private final LawReader lawReader;
    private final Cart[] carts;
    private final Cart spareCart;
    private final Night night;
    private final Rounds rounds;
    private final Shares shares;
    private final Parting parting;
    private final Matching matching;

    public NightCarts() {
        City newCity = new City();
        Roads newRoads = new Roads();
        Law newLaw = new Law();
        Cart[] newCarts = new Cart[CARTS];
        for (int k = 0; k < CARTS; k++) {
            newCarts[k] = new Cart();
        }
        tape = new Tape();
        city = newCity;
        roads = newRoads;
        law = newLaw;
        lawReader = new LawReader();
        carts = newCarts;
        spareCart = new Cart();
        night = new Night(newCity, newRoads, newLaw);
        rounds = new Rounds(newRoads);
        shares = new Shares(newCity);
        parting = new Parting();
        matching = new Matching();
    }

    public boolean street(int i, int houses, int lamps, int stars) {
        if (!isWithin(i, 0, STREETS - 1) || !isWithin(houses, 0, MOST_HOUSES)
                || !isWithin(lamps, 0, MOST_LAMPS) || !isWithin(stars, 0, MOST_STARS)) {
            return false;
        }
        city.tell(i, houses, lamps, stars);
        return true;
    }

    public boolean cart(int k, int room) {
        Cart cart = cartAt(k);
        if (cart == null || !isWithin(room, 1, MOST_ROOM)) {
            return false;
        }
        cart.tellRoom(room);
        return true;
    }

    public int pour(int i, int yards) {
        if (!city.isTold(i) || !isWithin(yards, 0, DEEPEST)) {
            return NONE;
        }
        return city.deepen(i, yards);
    }

    public int feed(int a, int b, int c, int d, int e) {
        if (!tape.hasRoomFor(FED_AT_ONCE)) {
            return NONE;
        }
        tape.addWord(a);
        tape.addWord(b);
        tape.addWord(c);
        tape.addWord(d);
        tape.addWord(e);
        return tape.length();
    }

    public int law(int n) {
        if (!isWithin(n, 1, MOST_LAW_BYTES) || !tape.holds(n)) {
            return NONE;
        }
        tape.open(n);
        int answer = lawReader.read(tape);
        if (tape.isSound()) {
            law.takeOver(lawReader.fresh());
        }
        tape.clear();
        return answer;
    }

    public int roads(int n) {
        if (!isWithin(n, 1, MOST_ROADS_BYTES) || !tape.holds(n)) {
            return NONE;
        }
        tape.open(n);
        int answer = roads.read(tape, city);
        tape.clear();
        return answer;
    }

    public int plan(int k, int n) {
        Cart cart = cartAt(k);
        if (cart == null || !isWithin(n, 1, MOST_PLAN_BYTES) || !tape.holds(n)) {
            return NONE;
        }
        tape.open(n);
        int answer = spareCart.readStops(tape);
        if (tape.isSound()) {
            cart.takeStopsOf(spareCart);
        }
        tape.clear();
        return answer;
    }

    public int nights(int n) {
        if (!isWithin(n, 1, MOST_NIGHTS)) {
            return NONE;
        }
        int slept = 0;
        for (int gone = 0; gone < n && city.night() < LAST_NIGHT; gone++) {
            sendCarts(0);
            night.goThrough();
            slept += night.slept();
            city.endNight(night.slept(), night.swept());
        }
        return slept;
    }

    public int tried(int what) {
        if (city.night() >= LAST_NIGHT || !canBeTried(what)) {
            return NONE;
        }
        sendCarts(0);
        night.goThrough();
        if (what < 10) {
            return night.total(what);
        }
        if (what < 30) {
            return night.depthOf(what - 10);
        }
        if (what < 40) {
            return night.loadOf(what - 30);
        }
        return night.lastMinuteOf(what - 40);
    }

    public int way(int i, int j) {
        if (!city.isTold(i) || !city.isTold(j)) {
            return NONE;
        }
        return roads.between(i, j);
    }

    public int round(int i, int others, int what) {
        if (!city.isTold(i) || !city.areTold(others, MOST_IN_ROUND) || hasBit(others, i)) {
            return NONE;
        }
        if (what != THE_WHOLE && !isWithin(what, 0, Integer.bitCount(others) - 1)) {
            return NONE;
        }
        if (!rounds.find(i, others)) {
            return NOT_SO;
        }
        return what == THE_WHOLE ? rounds.minutes() : rounds.streetAt(what);
    }

    public int share(int yards, int streets, int what) {
        if (!isWithin(yards, 0, MOST_SHARE_YARDS) || !city.areTold(streets, MOST_IN_SHARE)) {
            return NONE;
        }
        if (what != THE_WHOLE && !(city.isTold(what) && hasBit(streets, what))) {
            return NONE;
        }
        shares.choose(streets);
        if (!shares.spread(yards)) {
            return NOT_SO;
        }
        return what == THE_WHOLE ? shares.least() : shares.yardsFor(what);
    }

    public int sleepful(int yards, int streets, int what) {
        if (!isWithin(yards, 0, MOST_SLEEPFUL_YARDS) || !city.areTold(streets, MOST_IN_SLEEPFUL)
                || !isWithin(what, 0, 2)) {
            return NONE;
        }
        shares.choose(streets);
        shares.findSleepful(yards, law);
        if (what == 0) {
            return shares.houses();
        }
        return what == 1 ? shares.spent() : shares.sleepingStreets();
    }

    public int pitAt(int what) {
        if (!isWithin(what, 0, 3)) {
            return NONE;
        }
        if (city.toldStreets() == 0) {
            return NOT_SO;
        }
        int best = roads.bestPit(city, what < 2);
        if (what == 0 || what == 2) {
            return best;
        }
        return what == 1 ? roads.farthestFrom(best) : roads.sumFrom(best);
    }

    public int cut(int what) {
        if (!isWithin(what, 0, 2)) {
            return NONE;
        }
        if (what == 0) {
            return roads.countCuts();
        }
        int first = roads.firstCut();
        if (first < 0) {
            return NOT_SO;
        }
        return what == 1 ? first / STREETS : first % STREETS;
    }

    public int strike(int minute) {
        if (city.night() >= LAST_NIGHT || !isWithin(minute, 0, MINUTES_OF_NIGHT)) {
            return NONE;
        }
        sendCarts(minute);
        night.goThrough();
        return night.slept();
    }

    public int enough(int i) {
        if (!city.isTold(i)) {
            return NONE;
        }
        int most = DEEPEST - city.depthOf(i);
        for (int yards = 0; yards <= most; yards++) {
            if (night.sleepsThrough(i, city.depthOf(i) + yards)) {
                return yards;
            }
        }
        return NOT_SO;
    }

    public int oneStop(int k, int yards, int what) {
        if (!isToldCart(k) || !isWithin(yards, 1, MOST_ROOM) || !isWithin(what, 0, 1)
                || city.night() >= LAST_NIGHT) {
            return NONE;
        }
        int best = NOT_SO;
        int most = NOT_SO;
        for (int i = 0; i < STREETS; i++) {
            if (city.isTold(i)) {
                sendOneCart(k, yards, i);
                night.goThrough();
                if (night.slept() > most) {
                    most = night.slept();
                    best = i;
                }
            }
        }
        return what == 0 ? best : most;
    }

    public int out(int many, int what) {
        if (!isWithin(many, 1, MOST_OUT) || many > Integer.bitCount(city.toldStreets()) || !isWithin(what, 0, 1)) {
            return NONE;
        }
        shares.reckonGains(law);
        int dark = 0;
        int less = 0;
        for (int turn = 0; turn < many; turn++) {
            int best = shares.bestGainBeside(dark);
            dark |= 1 << best;
            less += shares.gainOf(best);
        }
        return what == 0 ? less : dark;
    }

    public int jobs(int n, int carts, int what) {
        if (!isWithin(n, 1, MOST_JOBS) || !tape.holds(n)) {
            return NONE;
        }
        int answer = partJobs(n, carts, what);
        tape.clear();
        return answer;
    }

    public int load(int n, int yards, int what) {
        if (!isWithin(n, 1, MOST_HEAPS) || !isWithin(yards, 0, DEEPEST) || !isWithin(what, 0, 1)
                || !tape.holds(2 * n)) {
            return NONE;
        }
        int most = NOT_SO;
        int best = NOT_SO;
        for (int heaps = 0; heaps < 1 << n; heaps++) {
            if (tape.sumOf(heaps, 0, 2, n) == yards) {
                int stars = tape.sumOf(heaps, 1, 2, n);
                if (stars > most) {
                    most = stars;
                    best = heaps;
                }
            }
        }
        tape.clear();
        return what == 0 ? most : best;
    }

    public int brides(int n, int what) {
        if (!isWithin(n, 1, MOST_BRIDES) || !tape.holds(2 * n)) {
            return NONE;
        }
        int answer = matchBrides(n, what);
        tape.clear();
        return answer;
    }

    public int thieves(int n, int missing, int what) {
        if (!isWithin(n, 1, MOST_THIEVES) || !isWithin(missing, 0, MOST_MISSING) || !isWithin(what, 0, 2)
                || !tape.holds(n)) {
            return NONE;
        }
        int sets = 0;
        int first = NOT_SO;
        int surely = (1 << n) - 1;
        for (int who = 0; who < 1 << n; who++) {
            if (tape.sumOf(who, 0, 1, n) == missing) {
                first = sets == 0 ? who : first;
                surely &= who;
                sets++;
            }
        }
        tape.clear();
        if (what == 0) {
            return sets;
        }
        return what == 1 || sets == 0 ? first : surely;
    }

    public int latest(int n) {
        if (!isWithin(n, 1, MOST_LATEST) || !tape.holds(3 * n)) {
            return NONE;
        }
        int answer = latestStart(n);
        tape.clear();
        return answer;
    }

    public int keep() {
        return city.store();
    }

    public boolean undo() {
        return city.restore();
    }

    public int check(int n) {
        if (!isWithin(n, 0, STREETS) || !tape.holds(2 * n)) {
            return NOT_SO;
        }
        int wrong = NONE;
        for (int i = 0; i < n && wrong == NONE; i++) {
            if (tape.pairAt(2 * i) != city.depthOf(i)) {
                wrong = i;
            }
        }
        tape.clear();
        return wrong;
    }

    public int count(int what) {
        if (what >= 100) {
            Cart cart = cartAt(what - 100);
            return cart == null ? NONE : cart.stops();
        }
        if (what >= 90) {
            return isToldCart(what - 90) ? carts[what - 90].room() : NONE;
        }
        if (what >= 10) {
            return countOfStreet(what);
        }
        switch (what) {
            case 0: return city.night();
            case 1: return city.slept();
            case 2: return city.swept();
            case 3: return city.toldStreets();
            case 4: return toldCarts();
            case 5: return law.clauses();
            case 6: return tape.length();
            case 7: return roads.howMany();
            default: return NONE;
        }
    }

    private static boolean isWithin(int number, int least, int most) {
        return number >= least && number <= most;
    }

    private static boolean hasBit(int bits, int place) {
        return (bits >> place & 1) == 1;
    }

    private Cart cartAt(int k) {
        return isWithin(k, 0, CARTS - 1) ? carts[k] : null;
    }

    private boolean isToldCart(int k) {
        Cart cart = cartAt(k);
        return cart != null && cart.isTold();
    }

    private int toldCarts() {
        int bits = 0;
        for (int k = 0; k < CARTS; k++) {
            if (isToldCart(k)) {
                bits |= 1 << k;
            }
        }
        return bits;
    }

    private int countOfStreet(int what) {
        if (what < 30) {
            return city.isTold(what - 10) ? city.housesOf(what - 10) : NONE;
        }
        if (what < 50) {
            return city.isTold(what - 30) ? city.lampsOf(what - 30) : NONE;
        }
        if (what < 70) {
            return city.isTold(what - 50) ? city.starsOf(what - 50) : NONE;
        }
        return city.isTold(what - 70) ? city.depthOf(what - 70) : NONE;
    }

    private boolean canBeTried(int what) {
        if (what < 10) {
            return isWithin(what, 0, 5);
        }
        if (what < 30) {
            return city.isTold(what - 10);
        }
        return what < 40 ? isToldCart(what - 30) : isToldCart(what - 40);
    }

    private void sendCarts(int start) {
        night.prepare();
        for (int k = 0; k < CARTS; k++) {
            if (isToldCart(k)) {
                night.send(k, carts[k], start);
            }
        }
    }

    private void sendOneCart(int k, int yards, int i) {
        night.prepare();
        Cart cart = cartAt(k);
        if (cart != null) {
            spareCart.tellRoom(cart.room());
            spareCart.planOneStop(yards, i);
            night.send(k, spareCart, 0);
        }
    }

    private int partJobs(int n, int many, int what) {
        if (!isWithin(many, 1, MOST_JOB_CARTS) || (what != IN_ALL && !isWithin(what, 0, n - 1))) {
            return NO_SUCH_PLACE;
        }
        parting.find(tape, n, many);
        return what == IN_ALL ? parting.longest() : parting.cartOf(what);
    }

    private int matchBrides(int n, int what) {
        int seen = 0;
        for (int place = n; place < 2 * n; place++) {
            int i = tape.at(place);
            if (!city.isTold(i) || hasBit(seen, i)) {
                return NOT_SO;
            }
            seen |= 1 << i;
        }
        if (what != IN_ALL && !isWithin(what, 0, n - 1)) {
            return NO_SUCH_PLACE;
        }
        matching.find(tape, n, city);
        return what == IN_ALL ? matching.missing() : tape.at(n + matching.placeFor(what));
    }

    private int latestStart(int n) {
        for (int p = 0; p < n; p++) {
            if (!city.isTold(tape.at(3 * p))) {
                return NOT_TOLD;
            }
        }
        int at = PIT;
        int gone = 0;
        int start = Integer.MAX_VALUE;
        for (int p = 0; p < n; p++) {
            int to = tape.at(3 * p);
            int minutes = roads.between(at, to);
            if (minutes < 0) {
                return NOT_SO;
            }
            gone += minutes;
            start = Math.min(start, tape.pairAt(3 * p + 1) - gone);
            at = to;
        }
        return start < 0 ? NOT_SO : start;
    }

    /** The bytes that are fed, and the place up to which a text on them is read. */
    private static final class Tape {
        private static final int END = -1;

        private final int[] bytes = new int[TAPE_ROOM];
        private int length;
        private int place;
        private int end;
        private int sign;
        private int fault;

        boolean hasRoomFor(int many) {
            return length + many <= TAPE_ROOM;
        }

        boolean holds(int many) {
            return many <= length;
        }

        int length() {
            return length;
        }

        void clear() {
            length = 0;
        }

        void addWord(int word) {
            for (int shift = 24; shift >= 0; shift -= 8) {
                if (length < TAPE_ROOM) {
                    bytes[length] = word >>> shift & 255;
                    length++;
                }
            }
        }

        int at(int where) {
            return where >= 0 && where < length ? bytes[where] : END;
        }

        int pairAt(int where) {
            return at(where) * 256 + at(where + 1);
        }

        /** The sum of the numbers whose bits are set: the first stands at from, each other one step behind. */
        int sumOf(int bits, int from, int step, int many) {
            int sum = 0;
            for (int p = 0; p < many; p++) {
                if (hasBit(bits, p)) {
                    sum += at(from + p * step);
                }
            }
            return sum;
        }

        void open(int bytesOfText) {
            place = 0;
            end = bytesOfText;
            fault = 0;
            sign = end > 0 ? at(0) : END;
        }

        int place() {
            return place;
        }

        int sign() {
            return sign;
        }

        boolean isAtEnd() {
            return place >= end;
        }

        boolean isSound() {
            return fault == 0;
        }

        int fault() {
            return fault;
        }

        void step() {
            place++;
            sign = place >= 0 && place < end && place < length ? bytes[place] : END;
        }

        /** Only the first fault counts: whatever is read behind it is for nothing. */
        void failAt(int number, int where) {
            if (fault == 0) {
                fault = -1000 * number - where;
            }
        }

        void fail(int number) {
            if (fault == 0) {
                fault = -1000 * number - place;
            }
        }

        boolean sees(int wanted) {
            return fault == 0 && sign == wanted;
        }

        boolean seesDigit() {
            return fault == 0 && sign >= '0' && sign <= '9';
        }

        boolean seesStreet() {
            return fault == 0 && sign >= 'a' && sign <= 'n';
        }

        void need(int wanted) {
            if (sees(wanted)) {
                step();
            } else {
                fail(CANNOT_STAND);
            }
        }

        int readNumber(int mostDigits) {
            if (!seesDigit()) {
                fail(CANNOT_STAND);
            }
            int number = 0;
            for (int digits = 0; digits < mostDigits && seesDigit(); digits++) {
                number = number * 10 + sign - '0';
                step();
            }
            return number;
        }
    }

    /** The streets, the night, and what was kept of them. */
    private static final class City {
        private final int[] houses = new int[STREETS];
        private final int[] lamps = new int[STREETS];
        private final int[] stars = new int[STREETS];
        private final int[] depths = new int[STREETS];
        private int told;
        private int night;
        private int slept;
        private int swept;
        private final int[] keptDepths = new int[STREETS];
        private boolean isKept;
        private int keptNight;
        private int keptSlept;
        private int keptSwept;

        boolean isTold(int i) {
            return i >= 0 && i < STREETS && (told >> i & 1) == 1;
        }

        boolean areTold(int bits, int most) {
            return (bits & ~told) == 0 && isWithin(Integer.bitCount(bits), 1, most);
        }

        int toldStreets() {
            return told;
        }

        void tell(int i, int itsHouses, int itsLamps, int itsStars) {
            if (isWithin(i, 0, STREETS - 1)) {
                houses[i] = itsHouses;
                lamps[i] = itsLamps;
                stars[i] = itsStars;
                told |= 1 << i;
            }
        }

        int housesOf(int i) {
            return i >= 0 && i < STREETS ? houses[i] : 0;
        }

        int lampsOf(int i) {
            return i >= 0 && i < STREETS ? lamps[i] : 0;
        }

        int starsOf(int i) {
            return i >= 0 && i < STREETS ? stars[i] : 0;
        }

        int depthOf(int i) {
            return i >= 0 && i < STREETS ? depths[i] : 0;
        }

        int deepen(int i, int yards) {
            if (isTold(i)) {
                depths[i] = Math.min(DEEPEST, depths[i] + yards);
            }
            return depthOf(i);
        }

        void copyDepths(int[] to) {
            System.arraycopy(depths, 0, to, 0, Math.min(STREETS, to.length));
        }

        int night() {
            return night;
        }

        int slept() {
            return slept;
        }

        int swept() {
            return swept;
        }

        void endNight(int sleptInIt, int sweptBehindIt) {
            slept += sleptInIt;
            swept += sweptBehindIt;
            night++;
            for (int i = 0; i < STREETS; i++) {
                depths[i] = 0;
            }
        }

        int store() {
            copyDepths(keptDepths);
            isKept = true;
            keptNight = night;
            keptSlept = slept;
            keptSwept = swept;
            int yards = 0;
            for (int i = 0; i < STREETS; i++) {
                yards += depths[i];
            }
            return yards;
        }

        boolean restore() {
            if (isKept) {
                System.arraycopy(keptDepths, 0, depths, 0, STREETS);
                night = keptNight;
                slept = keptSlept;
                swept = keptSwept;
            }
            return isKept;
        }
    }

    /** The roads, and the shortest ways by them. */
    private static final class Roads {
        private static final int NO_MINUTES = 3;
        private static final int WITH_ITSELF = 6;
        private static final int UNTOLD = 7;
        private static final int PAIRS = STREETS * STREETS;

        private final int[] minutes = new int[PAIRS];
        private final int[] fresh = new int[PAIRS];
        private final int[] ways = new int[PAIRS];
        private int count;

        Roads() {
            for (int p = 0; p < PAIRS; p++) {
                ways[p] = p % (STREETS + 1) == 0 ? 0 : NOT_SO;
            }
        }

        int howMany() {
            return count;
        }

        int read(Tape tape, City city) {
            for (int p = 0; p < PAIRS; p++) {
                fresh[p] = 0;
            }
            int lines = 0;
            for (int line = 0; line <= MOST_LINES && tape.isSound(); line++) {
                readLine(tape, city, line);
                lines++;
                if (tape.isAtEnd()) {
                    break;
                }
                tape.need(';');
            }
            if (!tape.isSound()) {
                return tape.fault();
            }
            System.arraycopy(fresh, 0, minutes, 0, PAIRS);
            findWays();
            return lines;
        }

        private void readLine(Tape tape, City city, int line) {
            int first = tape.sign() - 'a';
            if (tape.seesStreet() && line == MOST_LINES) {
                tape.fail(TOO_MANY);
            }
            readStreet(tape, city);
            int second = tape.sign() - 'a';
            if (tape.seesStreet() && city.isTold(second) && second == first) {
                tape.fail(WITH_ITSELF);
            }
            readStreet(tape, city);
            int where = tape.place();
            int number = tape.readNumber(2);
            if (tape.isSound() && number == 0) {
                tape.failAt(NO_MINUTES, where);
            }
            if (tape.isSound() && city.isTold(first) && city.isTold(second)) {
                fresh[first * STREETS + second] = number;
                fresh[second * STREETS + first] = number;
            }
        }

        private void readStreet(Tape tape, City city) {
            if (!tape.seesStreet()) {
                tape.fail(CANNOT_STAND);
            } else if (!city.isTold(tape.sign() - 'a')) {
                tape.fail(UNTOLD);
            } else {
                tape.step();
            }
        }

        private void findWays() {
            count = 0;
            for (int p = 0; p < PAIRS; p++) {
                if (p % (STREETS + 1) == 0) {
                    ways[p] = 0;
                } else {
                    ways[p] = minutes[p] > 0 ? minutes[p] : NOT_SO;
                    count += minutes[p] > 0 ? 1 : 0;
                }
            }
            count /= 2;
            for (int over = 0; over < STREETS; over++) {
                for (int from = 0; from < STREETS; from++) {
                    if (ways[from * STREETS + over] > 0) {
                        shortenFrom(from, over);
                    }
                }
            }
        }

        private void shortenFrom(int from, int over) {
            int first = ways[from * STREETS + over];
            for (int to = 0; to < STREETS; to++) {
                int rest = ways[over * STREETS + to];
                int direct = ways[from * STREETS + to];
                if (rest >= 0 && (direct < 0 || first + rest < direct)) {
                    ways[from * STREETS + to] = first + rest;
                }
            }
        }

        /** Minutes of the shortest way, or below 0 where there is none. */
        int between(int i, int j) {
            boolean areStreets = i >= 0 && i < STREETS && j >= 0 && j < STREETS;
            return areStreets ? ways[i * STREETS + j] : NOT_SO;
        }

        private int reachedFrom(int i) {
            int reached = 0;
            for (int j = 0; j < STREETS; j++) {
                reached += between(i, j) > 0 ? 1 : 0;
            }
            return reached;
        }

        int farthestFrom(int i) {
            int farthest = 0;
            for (int j = 0; j < STREETS; j++) {
                farthest = Math.max(farthest, between(i, j));
            }
            return farthest;
        }

        int sumFrom(int i) {
            int sum = 0;
            for (int j = 0; j < STREETS; j++) {
                sum += Math.max(0, between(i, j));
            }
            return sum;
        }

        int bestPit(City city, boolean byFarthest) {
            int best = NOT_SO;
            int reached = NOT_SO;
            int far = 0;
            for (int i = 0; i < STREETS; i++) {
                if (city.isTold(i)) {
                    int itsReached = reachedFrom(i);
                    int itsFar = byFarthest ? farthestFrom(i) : sumFrom(i);
                    if (itsReached > reached || (itsReached == reached && itsFar < far)) {
                        best = i;
                        reached = itsReached;
                        far = itsFar;
                    }
                }
            }
            return best;
        }

        int countCuts() {
            int cuts = 0;
            for (int p = 0; p < PAIRS; p++) {
                cuts += isCut(p) ? 1 : 0;
            }
            return cuts;
        }

        /** The lower street times 14 and the higher one of the first road that cuts; below 0: there is none. */
        int firstCut() {
            for (int p = 0; p < PAIRS; p++) {
                if (isCut(p)) {
                    return p;
                }
            }
            return NOT_SO;
        }

        private boolean isCut(int pair) {
            int lower = pair / STREETS;
            int higher = pair % STREETS;
            if (lower >= higher || !isWithin(pair, 0, PAIRS - 1) || minutes[pair] == 0) {
                return false;
            }
            int reached = 1 << lower;
            for (int turn = 0; turn < STREETS; turn++) {
                for (int i = 0; i < STREETS; i++) {
                    if (hasBit(reached, i)) {
                        reached |= neighboursOf(i, lower, higher);
                    }
                }
            }
            return !hasBit(reached, higher);
        }

        private int neighboursOf(int i, int lower, int higher) {
            int bits = 0;
            for (int j = 0; j < STREETS; j++) {
                boolean isClosed = Math.min(i, j) == lower && Math.max(i, j) == higher;
                if (!isClosed && minutes[i * STREETS + j] > 0) {
                    bits |= 1 << j;
                }
            }
            return bits;
        }
    }

    /** A cart's room and its plan. */
    private static final class Cart {
        private final int[] streets = new int[MOST_STOPS];
        private final int[] yards = new int[MOST_STOPS];
        private final boolean[] takes = new boolean[MOST_STOPS];
        private int stops;
        private int room;

        boolean isTold() {
            return room > 0;
        }

        int room() {
            return room;
        }

        void tellRoom(int itsRoom) {
            room = itsRoom;
        }

        int stops() {
            return stops;
        }

        int streetOf(int stop) {
            return isWithin(stop, 0, stops - 1) ? streets[stop] : NOT_SO;
        }

        int yardsOf(int stop) {
            return isWithin(stop, 0, stops - 1) ? yards[stop] : 0;
        }

        boolean takesOnAt(int stop) {
            return isWithin(stop, 0, stops - 1) && takes[stop];
        }

        int readStops(Tape tape) {
            stops = 0;
            for (int stop = 0; stop <= MOST_STOPS && tape.isSound(); stop++) {
                readStop(tape);
                if (tape.isAtEnd()) {
                    break;
                }
                tape.need(',');
            }
            return tape.isSound() ? stops : tape.fault();
        }

        private void readStop(Tape tape) {
            boolean takesOn = tape.sees('+');
            int street = takesOn ? PIT : tape.sign() - 'a';
            if (!takesOn && !tape.seesStreet()) {
                tape.fail(CANNOT_STAND);
            } else if (stops >= MOST_STOPS) {
                tape.fail(TOO_MANY);
            }
            if (tape.isSound()) {
                tape.step();
                addStop(takesOn, street, tape.readNumber(2));
            }
        }

        private void addStop(boolean takesOn, int street, int many) {
            if (stops < MOST_STOPS) {
                takes[stops] = takesOn;
                streets[stops] = street;
                yards[stops] = many;
                stops++;
            }
        }

        void planOneStop(int many, int street) {
            stops = 0;
            addStop(true, PIT, many);
            addStop(false, street, many);
        }

        void takeStopsOf(Cart other) {
            stops = 0;
            for (int stop = 0; stop < other.stops; stop++) {
                addStop(other.takesOnAt(stop), other.streetOf(stop), other.yardsOf(stop));
            }
        }
    }

    /**
     * The clauses in force, as rows of signs in the order in which they are reckoned: operands first, then what
     * joins them. A sign & or | stands between its two sides, with the place behind the second one.
     */
    private static final class Law {
        private static final int NUMBER = '0';
        private static final int FACT = 'a';
        private static final String FACTS = "ihldgrnk";
        private static final int STACK_ROOM = 64;
        private static final int MOST_MINUTES = 9;

        private final int[] letters = new int[MOST_CLAUSES];
        private final int[] starts = new int[MOST_CLAUSES];
        private final int[] middles = new int[MOST_CLAUSES];
        private final int[] ends = new int[MOST_CLAUSES];
        private int clauses;
        private final int[] signs = new int[MOST_LAW_BYTES];
        private final int[] worths = new int[MOST_LAW_BYTES];
        private int length;
        private final int[] facts = new int[8];
        private final int[] stack = new int[STACK_ROOM];
        private int top;
        private boolean isRefused;

        int clauses() {
            return clauses;
        }

        int length() {
            return length;
        }

        void clear() {
            clauses = 0;
            length = 0;
        }

        void addClause(int letter, int start, int middle) {
            if (clauses < MOST_CLAUSES) {
                letters[clauses] = letter;
                starts[clauses] = start;
                middles[clauses] = middle;
                ends[clauses] = length;
                clauses++;
            }
        }

        void addSign(int sign, int worth) {
            if (length < MOST_LAW_BYTES) {
                signs[length] = sign;
                worths[length] = worth;
                length++;
            }
        }

        void leadToEnd(int place) {
            if (isWithin(place, 0, length - 1)) {
                worths[place] = length;
            }
        }

        void takeOver(Law other) {
            clauses = other.clauses;
            length = other.length;
            System.arraycopy(other.letters, 0, letters, 0, MOST_CLAUSES);
            System.arraycopy(other.starts, 0, starts, 0, MOST_CLAUSES);
            System.arraycopy(other.middles, 0, middles, 0, MOST_CLAUSES);
            System.arraycopy(other.ends, 0, ends, 0, MOST_CLAUSES);
            System.arraycopy(other.signs, 0, signs, 0, MOST_LAW_BYTES);
            System.arraycopy(other.worths, 0, worths, 0, MOST_LAW_BYTES);
        }

        void regardStreet(City city, int i, int lamps, int depth) {
            facts[0] = i;
            facts[1] = city.housesOf(i);
            facts[2] = lamps;
            facts[3] = depth;
            facts[4] = city.starsOf(i);
        }

        void regardTime(int hour, int night, int cart) {
            facts[5] = hour;
            facts[6] = night;
            facts[7] = cart;
        }

        int ask(int letter) {
            for (int clause = 0; clause < clauses && clause < MOST_CLAUSES; clause++) {
                if (letters[clause] == letter && reckon(middles[clause], ends[clause]) != 0) {
                    int most = letter == 'u' ? MOST_MINUTES : DEEPEST;
                    return Math.max(0, Math.min(most, reckon(starts[clause], middles[clause])));
                }
            }
            return 0;
        }

        /** What the signs come to; 0 where they are refused: so a condition does not hold then. */
        private int reckon(int from, int to) {
            top = 0;
            isRefused = false;
            for (int at = from; at >= 0 && at < to && at < MOST_LAW_BYTES && !isRefused; at++) {
                int sign = signs[at];
                if (sign == NUMBER) {
                    push(worths[at]);
                } else if (sign == FACT) {
                    push(factAt(worths[at]));
                } else if (sign == '!') {
                    push(1 - pop());
                } else if (sign == '&' || sign == '|') {
                    int left = pop();
                    if ((left == 0) == (sign == '&')) {
                        push(left);
                        at = Math.max(at, worths[at] - 1);
                    }
                } else {
                    int right = pop();
                    push(join(pop(), sign, right));
                }
            }
            return isRefused ? 0 : pop();
        }

        private int join(int left, int sign, int right) {
            switch (sign) {
                case '+': return left + right;
                case '-': return left - right;
                case '*': return left * right;
                case '<': return left < right ? 1 : 0;
                case '>': return left > right ? 1 : 0;
                case '=': return left == right ? 1 : 0;
                default: break;
            }
            if (right == 0) {
                isRefused = true;
                return 0;
            }
            return sign == '/' ? left / right : left % right;
        }

        private int factAt(int place) {
            return place >= 0 && place < facts.length ? facts[place] : 0;
        }

        private void push(int number) {
            if (top >= 0 && top < STACK_ROOM) {
                stack[top] = number;
                top++;
            }
        }

        private int pop() {
            if (top < 1 || top > STACK_ROOM) {
                return 0;
            }
            top--;
            return stack[top];
        }
    }

    /** Reads a law's text, the open brackets counted on the way down. */
    private static final class LawReader {
        private static final int TOO_LONG = 2;
        private static final int TOO_DEEP = 5;
        private static final int MOST_DIGITS = 5;
        private static final int MOST_OPEN = 6;

        private final Law fresh = new Law();

        Law fresh() {
            return fresh;
        }

        int read(Tape tape) {
            fresh.clear();
            for (int clause = 0; clause <= MOST_CLAUSES && tape.isSound(); clause++) {
                readClause(tape);
                if (tape.isAtEnd()) {
                    break;
                }
                tape.need(';');
            }
            return tape.isSound() ? fresh.clauses() : tape.fault();
        }

        private void readClause(Tape tape) {
            int letter = tape.sign();
            if (letter != 'w' && letter != 'c' && letter != 's' && letter != 'u') {
                tape.fail(CANNOT_STAND);
            } else if (fresh.clauses() >= MOST_CLAUSES) {
                tape.fail(TOO_MANY);
            }
            if (!tape.isSound()) {
                return;
            }
            tape.step();
            int start = fresh.length();
            readSum(tape, 0);
            int middle = fresh.length();
            tape.need('(');
            readChoice(tape, 1);
            tape.need(')');
            fresh.addClause(letter, start, middle);
        }

        private void readSum(Tape tape, int open) {
            readProduct(tape, open);
            for (int terms = 0; terms < MOST_LAW_BYTES && (tape.sees('+') || tape.sees('-')); terms++) {
                int sign = tape.sign();
                tape.step();
                readProduct(tape, open);
                fresh.addSign(sign, 0);
            }
        }

        private void readProduct(Tape tape, int open) {
            readFactor(tape, open);
            for (int factors = 0; factors < MOST_LAW_BYTES && seesProductSign(tape); factors++) {
                int sign = tape.sign();
                tape.step();
                readFactor(tape, open);
                fresh.addSign(sign, 0);
            }
        }

        private static boolean seesProductSign(Tape tape) {
            return tape.sees('*') || tape.sees('/') || tape.sees('%');
        }

        private void readFactor(Tape tape, int open) {
            if (tape.sees('[')) {
                if (opens(tape, open)) {
                    readSum(tape, open + 1);
                    tape.need(']');
                }
            } else if (tape.seesDigit()) {
                fresh.addSign(Law.NUMBER, tape.readNumber(MOST_DIGITS));
                if (tape.seesDigit()) {
                    tape.fail(TOO_LONG);
                }
            } else {
                readFact(tape);
            }
        }

        private void readFact(Tape tape) {
            int place = tape.isAtEnd() ? -1 : Law.FACTS.indexOf((char) tape.sign());
            if (place < 0) {
                tape.fail(CANNOT_STAND);
            } else {
                fresh.addSign(Law.FACT, place);
                tape.step();
            }
        }

        private boolean opens(Tape tape, int open) {
            if (open >= MOST_OPEN) {
                tape.fail(TOO_DEEP);
                return false;
            }
            tape.step();
            return true;
        }

        private void readChoice(Tape tape, int open) {
            readPart(tape, open);
            for (int parts = 0; parts < MOST_LAW_BYTES && tape.sees('|'); parts++) {
                int place = fresh.length();
                fresh.addSign('|', 0);
                tape.step();
                readPart(tape, open);
                fresh.leadToEnd(place);
            }
        }

        private void readPart(Tape tape, int open) {
            readTest(tape, open);
            for (int tests = 0; tests < MOST_LAW_BYTES && tape.sees('&'); tests++) {
                int place = fresh.length();
                fresh.addSign('&', 0);
                tape.step();
                readTest(tape, open);
                fresh.leadToEnd(place);
            }
        }

        private void readTest(Tape tape, int open) {
            if (tape.sees('!')) {
                readNegation(tape, open);
            } else if (tape.sees('(')) {
                if (opens(tape, open)) {
                    readChoice(tape, open + 1);
                    tape.need(')');
                }
            } else {
                readComparison(tape, open);
            }
        }

        private void readNegation(Tape tape, int open) {
            if (opens(tape, open)) {
                readTest(tape, open + 1);
                fresh.addSign('!', 0);
            }
        }

        private void readComparison(Tape tape, int open) {
            readSum(tape, open);
            if (!tape.sees('<') && !tape.sees('>') && !tape.sees('=')) {
                tape.fail(CANNOT_STAND);
                return;
            }
            int sign = tape.sign();
            tape.step();
            readSum(tape, open);
            fresh.addSign(sign, 0);
        }
    }

    /** A night gone through beside the city, which stays as it is. */
    private static final class Night {
        private static final int NEVER = Integer.MAX_VALUE;

        private final City city;
        private final Roads roads;
        private final Law law;
        private final int[] depths = new int[STREETS];
        private final Cart[] carts = new Cart[CARTS];
        private final int[] stops = new int[CARTS];
        private final int[] places = new int[CARTS];
        private final int[] arrivals = new int[CARTS];
        private final int[] loads = new int[CARTS];
        private final int[] lastMinutes = new int[CARTS];
        private int slept;
        private int swept;
        private int wasted;
        private int carried;
        private int left;
        private int arrived;

        Night(City itsCity, Roads itsRoads, Law itsLaw) {
            city = itsCity;
            roads = itsRoads;
            law = itsLaw;
        }

        int slept() {
            return slept;
        }

        int swept() {
            return swept;
        }

        int total(int what) {
            switch (what) {
                case 0: return slept;
                case 1: return swept;
                case 2: return wasted;
                case 3: return carried;
                case 4: return left;
                case 5: return arrived;
                default: return NONE;
            }
        }

        int depthOf(int i) {
            return i >= 0 && i < STREETS ? depths[i] : 0;
        }

        int loadOf(int k) {
            return isWithin(k, 0, CARTS - 1) ? loads[k] : 0;
        }

        /** A cart that is still under way to a stop has not come to its last one. */
        int lastMinuteOf(int k) {
            return isWithin(k, 0, CARTS - 1) && arrivals[k] == NEVER ? lastMinutes[k] : NOT_SO;
        }

        void prepare() {
            city.copyDepths(depths);
            for (int k = 0; k < CARTS; k++) {
                carts[k] = null;
                arrivals[k] = NEVER;
                loads[k] = 0;
                lastMinutes[k] = NOT_SO;
            }
            slept = 0;
            swept = 0;
            wasted = 0;
            carried = 0;
            left = 0;
            arrived = 0;
        }

        void send(int k, Cart cart, int minute) {
            if (isWithin(k, 0, CARTS - 1)) {
                carts[k] = cart;
                places[k] = PIT;
                goOn(k, 0, minute);
            }
        }

        void goThrough() {
            for (int hour = 0; hour < HOURS && !isIdle(); hour++) {
                serveBefore((hour + 1) * MINUTES_OF_HOUR);
                for (int i = 0; i < STREETS; i++) {
                    if (city.isTold(i) && sleepsAfter(hour, i)) {
                        slept += city.housesOf(i);
                    }
                }
            }
            for (int i = 0; i < STREETS; i++) {
                swept += depths[i];
            }
        }

        /** With no night anywhere and no cart to bring any, the hours that are left change nothing. */
        private boolean isIdle() {
            for (int i = 0; i < STREETS; i++) {
                if (depths[i] > 0) {
                    return false;
                }
            }
            return arrivals[earliestCart()] >= MINUTES_OF_NIGHT;
        }

        boolean sleepsThrough(int i, int depth) {
            boolean sleeps = isWithin(i, 0, STREETS - 1);
            if (sleeps) {
                depths[i] = depth;
            }
            for (int hour = 0; hour < HOURS && sleeps; hour++) {
                sleeps = sleepsAfter(hour, i);
            }
            return sleeps;
        }

        /** Ends an hour in a street. Where there is no night nothing can be lost: the law need not be asked. */
        private boolean sleepsAfter(int hour, int i) {
            if (depthOf(i) == 0) {
                return false;
            }
            law.regardTime(hour, city.night(), 0);
            wasted += lose('w', i);
            carried += lose('c', i);
            return depthOf(i) > 0 && depthOf(i) >= askOf('s', i);
        }

        private int lose(int letter, int i) {
            int gone = Math.min(depthOf(i), askOf(letter, i));
            if (isWithin(i, 0, STREETS - 1)) {
                depths[i] -= gone;
            }
            return gone;
        }

        private int askOf(int letter, int i) {
            law.regardStreet(city, i, city.lampsOf(i), depthOf(i));
            return law.ask(letter);
        }

        /** Only minutes in which a cart arrives matter, so the others are leapt over. */
        private void serveBefore(int end) {
            for (int turn = 0; turn < CARTS * MOST_STOPS; turn++) {
                int next = earliestCart();
                if (arrivals[next] >= end) {
                    return;
                }
                serve(next);
            }
        }

        private int earliestCart() {
            int earliest = 0;
            for (int k = 1; k < CARTS; k++) {
                if (arrivals[k] < arrivals[earliest]) {
                    earliest = k;
                }
            }
            return earliest;
        }

        private void serve(int k) {
            Cart cart = isWithin(k, 0, CARTS - 1) ? carts[k] : null;
            if (cart == null) {
                return;
            }
            int minute = arrivals[k];
            int stop = stops[k];
            int i = cart.streetOf(stop);
            arrived++;
            lastMinutes[k] = minute;
            places[k] = i;
            law.regardTime(minute / MINUTES_OF_HOUR, city.night(), k);
            int each = askOf('u', i);
            int yards = cart.takesOnAt(stop)
                    ? takeOn(k, Math.min(cart.yardsOf(stop), cart.room() - loads[k]))
                    : leave(k, i, Math.min(cart.yardsOf(stop), loads[k]));
            goOn(k, stop + 1, minute + each * yards);
        }

        private int takeOn(int k, int yards) {
            loads[k] += yards;
            return yards;
        }

        private int leave(int k, int i, int yards) {
            loads[k] -= yards;
            left += yards;
            if (isWithin(i, 0, STREETS - 1)) {
                depths[i] = Math.min(DEEPEST, depths[i] + yards);
            }
            return yards;
        }

        private void goOn(int k, int from, int minute) {
            Cart cart = carts[k];
            arrivals[k] = NEVER;
            if (cart == null || !city.isTold(PIT)) {
                return;
            }
            for (int stop = from; stop < cart.stops(); stop++) {
                int minutes = roads.between(places[k], cart.streetOf(stop));
                if (minutes >= 0 && city.isTold(cart.streetOf(stop))) {
                    stops[k] = stop;
                    arrivals[k] = minute + minutes;
                    return;
                }
            }
        }
    }

    /** The shortest round, by what is left to go from each street with each set of others still ahead. */
    private static final class Rounds {
        private static final int SETS = 1 << MOST_IN_ROUND;
        private static final int COLUMNS = MOST_IN_ROUND + 1;
        private static final int HOME = MOST_IN_ROUND;

        private final Roads roads;
        private final int[] streets = new int[COLUMNS];
        private final int[] rest = new int[SETS * COLUMNS];
        private final int[] row = new int[MOST_IN_ROUND];
        private int many;

        Rounds(Roads itsRoads) {
            roads = itsRoads;
        }

        /** The others must be 1 to 7; false: one of them can't be come to. */
        boolean find(int home, int others) {
            many = 0;
            streets[HOME] = home;
            for (int j = 0; j < STREETS && many < MOST_IN_ROUND; j++) {
                if (hasBit(others, j)) {
                    if (roads.between(home, j) < 0) {
                        return false;
                    }
                    streets[many] = j;
                    many++;
                }
            }
            for (int set = 0; set < 1 << many; set++) {
                for (int last = 0; last < many; last++) {
                    rest[set * COLUMNS + last] = leastFrom(last, set);
                }
            }
            rest[((1 << many) - 1) * COLUMNS + HOME] = leastFrom(HOME, (1 << many) - 1);
            writeRow();
            return true;
        }

        int minutes() {
            return rest[((1 << many) - 1) * COLUMNS + HOME];
        }

        int streetAt(int place) {
            return isWithin(place, 0, many - 1) ? streets[row[place]] : NONE;
        }

        private int leastFrom(int last, int set) {
            if (set == 0) {
                return minutesBetween(last, HOME);
            }
            int least = Integer.MAX_VALUE;
            for (int next = 0; next < many; next++) {
                if (hasBit(set, next)) {
                    least = Math.min(least, minutesOver(last, next, set));
                }
            }
            return least;
        }

        private int minutesOver(int last, int next, int set) {
            return minutesBetween(last, next) + rest[(set & ~(1 << next)) * COLUMNS + next];
        }

        private int minutesBetween(int from, int to) {
            return roads.between(streets[from], streets[to]);
        }

        private void writeRow() {
            int set = (1 << many) - 1;
            int last = HOME;
            for (int place = 0; place < many; place++) {
                int least = leastFrom(last, set);
                int next = firstThatMeets(last, set, least);
                row[place] = next;
                set &= ~(1 << next);
                last = next;
            }
        }

        private int firstThatMeets(int last, int set, int least) {
            for (int next = 0; next < many; next++) {
                if (hasBit(set, next) && minutesOver(last, next, set) == least) {
                    return next;
                }
            }
            return 0;
        }
    }

    /** Yards parted among chosen streets, and lamps put out. */
    private static final class Shares {
        private final City city;
        private final int[] streets = new int[MOST_IN_SLEEPFUL];
        private final int[] yards = new int[MOST_IN_SLEEPFUL];
        private final int[] gains = new int[STREETS];
        private int many;
        private int least;
        private int best;
        private int houses;
        private int spent;

        Shares(City itsCity) {
            city = itsCity;
        }

        void choose(int bits) {
            many = 0;
            for (int i = 0; i < STREETS && many < MOST_IN_SLEEPFUL; i++) {
                if (hasBit(bits, i)) {
                    streets[many] = i;
                    many++;
                }
            }
        }

        int least() {
            return least;
        }

        int yardsFor(int i) {
            for (int p = 0; p < many; p++) {
                if (streets[p] == i) {
                    return yards[p];
                }
            }
            return NONE;
        }

        /** What is over goes to the streets from the last one on: that makes the row the least. */
        boolean spread(int all) {
            if (neededFor(DEEPEST) < all) {
                return false;
            }
            least = greatestLevel(all);
            int over = all - neededFor(least);
            for (int p = many - 1; p >= 0; p--) {
                int depth = city.depthOf(streets[p]);
                int needed = Math.max(0, least - depth);
                int more = Math.min(over, DEEPEST - depth - needed);
                yards[p] = needed + more;
                over -= more;
            }
            return true;
        }

        private int neededFor(int level) {
            int needed = 0;
            for (int p = 0; p < many; p++) {
                needed += Math.max(0, level - city.depthOf(streets[p]));
            }
            return needed;
        }

        private int greatestLevel(int all) {
            int low = 0;
            int high = DEEPEST;
            for (int turn = 0; turn < 10; turn++) {
                int middle = (low + high + 1) / 2;
                if (neededFor(middle) <= all) {
                    low = middle;
                } else {
                    high = middle - 1;
                }
            }
            return low;
        }

        int houses() {
            return houses;
        }

        int spent() {
            return spent;
        }

        int sleepingStreets() {
            int bits = 0;
            for (int p = 0; p < many; p++) {
                if (hasBit(best, p)) {
                    bits |= 1 << streets[p];
                }
            }
            return bits;
        }

        void findSleepful(int most, Law law) {
            int always = 0;
            for (int p = 0; p < many; p++) {
                yards[p] = missingToSleep(streets[p], law);
                if (yards[p] == 0) {
                    always |= 1 << p;
                }
            }
            houses = -1;
            for (int set = 0; set < 1 << many; set++) {
                if ((set & always) == always) {
                    weigh(set, most);
                }
            }
        }

        private int missingToSleep(int i, Law law) {
            int depth = city.depthOf(i);
            law.regardTime(0, city.night(), 0);
            law.regardStreet(city, i, city.lampsOf(i), depth);
            return Math.max(0, Math.max(1, law.ask('s')) - depth);
        }

        private void weigh(int set, int most) {
            int itsYards = 0;
            int itsHouses = 0;
            for (int p = 0; p < many; p++) {
                if (hasBit(set, p)) {
                    itsYards += yards[p];
                    itsHouses += city.housesOf(streets[p]);
                }
            }
            if (itsYards <= most && (itsHouses > houses || (itsHouses == houses && itsYards < spent))) {
                best = set;
                houses = itsHouses;
                spent = itsYards;
            }
        }

        void reckonGains(Law law) {
            for (int i = 0; i < STREETS; i++) {
                if (city.isTold(i)) {
                    gains[i] = wastedBy(city.lampsOf(i), i, law) - wastedBy(0, i, law);
                }
            }
        }

        private int wastedBy(int lamps, int i, Law law) {
            int yardsInAll = 0;
            law.regardStreet(city, i, lamps, city.depthOf(i));
            for (int hour = 0; hour < HOURS; hour++) {
                law.regardTime(hour, city.night(), 0);
                yardsInAll += law.ask('w');
            }
            return yardsInAll;
        }

        int gainOf(int i) {
            return isWithin(i, 0, STREETS - 1) ? gains[i] : 0;
        }

        /** There must be a told street beside them. */
        int bestGainBeside(int dark) {
            int found = NONE;
            for (int i = 0; i < STREETS; i++) {
                if (city.isTold(i) && !hasBit(dark, i) && (found < 0 || gains[i] > gains[found])) {
                    found = i;
                }
            }
            return Math.max(0, found);
        }
    }

    /** Jobs parted among carts: rows are tried from the least on, so the first of like ones stays. */
    private static final class Parting {
        private final int[] minutes = new int[MOST_JOBS];
        private final int[] row = new int[MOST_JOBS];
        private final int[] bestRow = new int[MOST_JOBS];
        private final int[] sums = new int[MOST_JOB_CARTS];
        private int jobs;
        private int carts;
        private int longest;

        int longest() {
            return longest;
        }

        int cartOf(int job) {
            return isWithin(job, 0, MOST_JOBS - 1) ? bestRow[job] : NONE;
        }

        void find(Tape tape, int many, int manyCarts) {
            jobs = Math.min(many, MOST_JOBS);
            carts = Math.min(manyCarts, MOST_JOB_CARTS);
            for (int job = 0; job < jobs; job++) {
                minutes[job] = tape.at(job);
            }
            for (int k = 0; k < carts; k++) {
                sums[k] = 0;
            }
            longest = Integer.MAX_VALUE;
            give(0);
        }

        private void give(int job) {
            if (job >= jobs) {
                keepRow();
                return;
            }
            for (int k = 0; k < carts; k++) {
                giveTo(k, job);
            }
        }

        private void giveTo(int k, int job) {
            row[job] = k;
            sums[k] += minutes[job];
            if (sums[k] < longest) {
                give(job + 1);
            }
            sums[k] -= minutes[job];
        }

        private void keepRow() {
            int itsLongest = 0;
            for (int k = 0; k < carts; k++) {
                itsLongest = Math.max(itsLongest, sums[k]);
            }
            if (itsLongest < longest) {
                longest = itsLongest;
                System.arraycopy(row, 0, bestRow, 0, MOST_JOBS);
            }
        }
    }

    /** Brides matched with streets: rows are tried from the least on, so the first of like ones stays. */
    private static final class Matching {
        private final int[] wishes = new int[MOST_BRIDES];
        private final int[] stars = new int[MOST_BRIDES];
        private final int[] row = new int[MOST_BRIDES];
        private final int[] bestRow = new int[MOST_BRIDES];
        private int many;
        private int missing;

        int missing() {
            return missing;
        }

        int placeFor(int bride) {
            return isWithin(bride, 0, MOST_BRIDES - 1) ? bestRow[bride] : 0;
        }

        void find(Tape tape, int manyBrides, City city) {
            many = Math.min(manyBrides, MOST_BRIDES);
            for (int p = 0; p < many; p++) {
                wishes[p] = tape.at(p);
                stars[p] = city.starsOf(tape.at(many + p));
            }
            missing = Integer.MAX_VALUE;
            match(0, 0, 0);
        }

        private void match(int bride, int taken, int missed) {
            if (missed >= missing) {
                return;
            }
            if (bride >= many) {
                missing = missed;
                System.arraycopy(row, 0, bestRow, 0, MOST_BRIDES);
                return;
            }
            for (int p = 0; p < many; p++) {
                if (!hasBit(taken, p)) {
                    matchWith(p, bride, taken, missed);
                }
            }
        }

        private void matchWith(int p, int bride, int taken, int missed) {
            row[bride] = p;
            match(bride + 1, taken | 1 << p, missed + Math.max(0, wishes[bride] - stars[p]));
        }
    }
}
