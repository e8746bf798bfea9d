import java.util.Arrays;

/**
 * A street in which it is enough that one of those near does it. What each call answers is said by
 * the numbered promises of the document; the words in capitals here are its terms.
 */
public final class SomebodyWill {
    public static final int NONE = -1;

    private static final int BAD = -2;
    private static final int OTHER = -3;
    private static final int NOTHING = -4;
    private static final int STATE = -5;
    private static final int FULL = -6;
    private static final int REFUSALS = 5;
    /** GAINS may be small negative numbers, so their refusals are put far below them. */
    private static final int BELOW_GAINS = -1000000;
    private static final int FAULT_BASE = -20;

    private static final int SHELVES = 8;
    private static final int PLACES = 40;
    private static final int STREETS = 4;
    private static final int PEOPLE = 12;
    private static final int TAPE = 160;
    private static final int DEGREES = 6;
    private static final int MOST_KNOWN = 20;
    private static final int DEAREST = 99;
    private static final int PRICIEST = 9;
    private static final int LAST_HOUR = 99;
    private static final int LAST_DAY = 999;
    private static final int LONGEST_STEP = 999;
    private static final int MILLION = 1000000;

    private static final int BYTES = 0;
    private static final int SHORTS = 1;
    private static final int INTS = 2;
    private static final int BOOLEANS = 4;

    private static final int WAY_BASE = 10;
    private static final int WAY = 0;
    private static final int SURE = 1;
    private static final int LOTS = 2;
    private static final int DEGREE = 3;
    private static final int TURN = 4;
    private static final int ANSWER = 5;

    private static final int BY_FEWEST = 0;
    private static final int BY_MOST = 1;
    private static final int BY_COST = 2;
    private static final int BY_GOOD = 3;
    private static final int BY_HARM = 4;

    private final Shelf[] shelves = new Shelf[SHELVES];
    private final Reader tape = new Reader();
    private final Town town = new Town();
    private final Town kept = new Town();
    /** A street to try ties in, made once so that no call makes one. */
    private final Street trial = new Street();
    private final Course course = new Course();
    private final int[] refused = new int[REFUSALS];
    private boolean isKept;

    public SomebodyWill() {
        for (int s = 0; s < SHELVES; s++) {
            shelves[s] = new Shelf();
        }
    }

    // ---- shelves and ways

    public int row(int s, int sort, int n) {
        Shelf shelf = shelfAt(s);
        if (shelf == null || !isWithin(sort, BYTES, BOOLEANS) || !isWithin(n, 0, PLACES)) {
            return refuse(BAD);
        }
        shelf.putRow(sort, n);
        return 1;
    }

    public int set(int s, int i, long v) {
        Shelf shelf = shelfAt(s);
        if (shelf == null) {
            return refuse(BAD);
        }
        if (shelf.isWay()) {
            return refuse(OTHER);
        }
        if (!shelf.isRow()) {
            return refuse(NOTHING);
        }
        if (!shelf.hasPlaces(i, 1)) {
            return refuse(BAD);
        }
        shelf.put(i, v);
        return 1;
    }

    public int copy(int p, int q, int i, int j, int n) {
        Shelf from = shelfAt(p);
        Shelf to = shelfAt(q);
        if (from == null || to == null) {
            return refuse(BAD);
        }
        if (from.isWay() || to.isWay()) {
            return refuse(OTHER);
        }
        if (from.isRow() && to.isRow() && from.holding != to.holding) {
            return refuse(OTHER);
        }
        if (!from.isRow() || !to.isRow()) {
            return refuse(NOTHING);
        }
        if (!from.hasPlaces(i, n) || !to.hasPlaces(j, n)) {
            return refuse(BAD);
        }
        System.arraycopy(from.places, i, to.places, j, n);
        return n;
    }

    public long element(int s, int i) {
        Shelf shelf = shelfAt(s);
        return shelf == null ? 0 : shelf.told(i);
    }

    public int holds(int s) {
        Shelf shelf = shelfAt(s);
        return shelf == null ? NONE : shelf.holding;
    }

    public int way(int s, int kind, int a) {
        Shelf shelf = shelfAt(s);
        if (shelf == null || !isWayToldBy(kind, a)) {
            return refuse(BAD);
        }
        if (kind != ANSWER) {
            shelf.putWay(kind, a);
            return 1;
        }
        Shelf others = shelfAt(a);
        if (others == null) {
            return refuse(BAD);
        }
        if (others.isWay()) {
            return refuse(OTHER);
        }
        if (!others.isRow()) {
            return refuse(NOTHING);
        }
        shelf.putWay(ANSWER, others.toldSet());
        return 1;
    }

    public int says(int s, int kind) {
        Shelf shelf = shelfAt(s);
        if (shelf == null || !isWithin(kind, WAY, ANSWER)) {
            return refuse(BAD);
        }
        if (shelf.isRow()) {
            return refuse(OTHER);
        }
        if (!shelf.isWay()) {
            return refuse(NOTHING);
        }
        return shelf.isOfKind(kind) ? shelf.saidAs(kind) : refuse(OTHER);
    }

    // ---- the tape and what is read from it

    public int feed(int v, int n) {
        if (!isWithin(n, 1, 4)) {
            return refuse(BAD);
        }
        if (n > TAPE - tape.size) {
            return refuse(FULL);
        }
        for (int i = n - 1; i >= 0; i--) {
            tape.append((v >>> (8 * i)) & 255);
        }
        return tape.size;
    }

    public int wipe() {
        int ahead = tape.size;
        tape.empty();
        return ahead;
    }

    public int street() {
        Street next = town.placeForNext();
        if (next == null) {
            return refuse(FULL);
        }
        boolean stands = tape.readStreet(next);
        int fault = tape.start;
        tape.empty();
        if (!stands) {
            refuse(BAD);
            return FAULT_BASE - fault;
        }
        town.size++;
        return town.size - 1;
    }

    // ---- streets and persons

    public int streetOf(int street, int what) {
        Street at = town.streetAt(street);
        if (at == null) {
            return refuse(BAD);
        }
        switch (what) {
            case 0:
                return at.persons;
            case 1:
                return at.ties();
            case 2:
                return at.more;
            case 3:
                return at.musts;
            case 4:
                return at.prices();
            default:
                return refuse(BAD);
        }
    }

    public int personOf(int street, int person, int what) {
        Street at = town.streetAt(street);
        if (at == null || !at.hasPerson(person)) {
            return refuse(BAD);
        }
        switch (what) {
            case 0:
                return at.cost[person];
            case 1:
                return at.worth[person];
            case 2:
                return at.near[person];
            case 3:
                return at.isMust(person) ? 1 : 0;
            case 4:
                return at.wayKind[person];
            case 5:
                return at.pays[person];
            default:
                return refuse(BAD);
        }
    }

    public int alter(int street, int person, int what, int v) {
        Street at = town.streetAt(street);
        if (at == null || !at.hasPerson(person) || !isWithin(what, 0, 1) || !isWithin(v, 0, DEAREST)) {
            return refuse(BAD);
        }
        int[] altered = what == 0 ? at.cost : at.worth;
        int ahead = altered[person];
        altered[person] = v;
        return ahead;
    }

    public int tie(int street, int a, int b, int price) {
        Street at = town.streetAt(street);
        if (at == null || !at.hasPair(a, b) || !isWithin(price, NONE, PRICIEST)) {
            return refuse(BAD);
        }
        int ahead = at.priceOf(a, b);
        if (price == NONE) {
            at.part(a, b);
        } else {
            at.join(a, b, price);
        }
        return ahead;
    }

    public int must(int street, int person, boolean is) {
        Street at = town.streetAt(street);
        if (at == null || !at.hasPerson(person)) {
            return refuse(BAD);
        }
        int ahead = at.isMust(person) ? 1 : 0;
        at.setMust(person, is);
        return ahead;
    }

    public int take(int street, int person, int s) {
        Street at = town.streetAt(street);
        if (at == null || !at.hasPerson(person)) {
            return refuse(BAD);
        }
        if (s == NONE) {
            at.giveWay(person, NONE, 0);
            return 1;
        }
        Shelf shelf = shelfAt(s);
        if (shelf == null) {
            return refuse(BAD);
        }
        if (shelf.isRow()) {
            return refuse(OTHER);
        }
        if (!shelf.isWay()) {
            return refuse(NOTHING);
        }
        at.giveWay(person, shelf.wayKind(), shelf.wayTold);
        return 1;
    }

    public int come(int street, int near, int cost, int worth) {
        Street at = town.streetAt(street);
        if (at == null || !at.hasSet(near) || !isWithin(cost, 0, DEAREST) || !isWithin(worth, 0, DEAREST)) {
            return refuse(BAD);
        }
        if (at.persons >= PEOPLE) {
            return refuse(FULL);
        }
        return at.admit(near, cost, worth);
    }

    // ---- gains and rests

    public int gain(int street, int person, int doers) {
        Street at = town.streetAt(street);
        if (at == null || !at.hasPerson(person) || !at.hasSet(doers)) {
            return BELOW_GAINS + refuse(BAD);
        }
        return at.gainOf(person, doers);
    }

    public int total(int street, int doers) {
        Street at = streetWithSet(street, doers);
        return at == null ? BELOW_GAINS + refuse(BAD) : at.goodOf(doers);
    }

    public int judge(int street, int doers) {
        Street at = streetWithSet(street, doers);
        return at == null ? refuse(BAD) : at.firstRestless(doers);
    }

    public int count(int street) {
        Street at = town.streetAt(street);
        return at == null ? refuse(BAD) : at.rests();
    }

    public int rest(int street, int i) {
        Street at = town.streetAt(street);
        if (at == null || i < 0) {
            return refuse(BAD);
        }
        int found = at.restNumber(i);
        return found == NONE ? refuse(BAD) : found;
    }

    public int fewest(int street) {
        return restBy(street, BY_FEWEST);
    }

    public int most(int street) {
        return restBy(street, BY_MOST);
    }

    public int cheap(int street) {
        return restBy(street, BY_COST);
    }

    public int best(int street) {
        return restBy(street, BY_GOOD);
    }

    public int good(int street) {
        Street at = town.streetAt(street);
        return at == null ? refuse(BAD) : at.choose(BY_GOOD, false);
    }

    public int lost(int street) {
        return belowGood(street, BY_GOOD);
    }

    public int beside(int street) {
        return belowGood(street, BY_HARM);
    }

    // ---- in turn

    public int go(int street, int doers) {
        Street at = streetWithSet(street, doers);
        if (at == null) {
            return refuse(BAD);
        }
        course.run(at, doers | at.musts);
        return course.ringRounds > 0 ? refuse(STATE) : course.end;
    }

    public int turns(int street, int doers) {
        Street at = streetWithSet(street, doers);
        if (at == null) {
            return refuse(BAD);
        }
        course.run(at, doers | at.musts);
        return course.changes;
    }

    public int ring(int street, int doers) {
        Street at = streetWithSet(street, doers);
        if (at == null) {
            return refuse(BAD);
        }
        course.run(at, doers | at.musts);
        return course.ringRounds;
    }

    // ---- all alike, and those known by how many they have near

    public int lot(int cost, int worth, int near) {
        return isAlike(cost, worth, near) ? greatestLot(cost, worth, near) : refuse(BAD);
    }

    public int nobody(int cost, int worth, int near) {
        if (!isAlike(cost, worth, near)) {
            return refuse(BAD);
        }
        int rests = 1000 - greatestLot(cost, worth, near);
        long scale = power(1000, near - 1);
        return scale > 0 ? (int) (power(rests, near + 1) / scale) : 0;
    }

    public int know(int near, int n) {
        if (!isWithin(near, 0, DEGREES - 1) || !isWithin(n, 0, MOST_KNOWN)) {
            return refuse(BAD);
        }
        int ahead = town.known[near];
        town.known[near] = n;
        return ahead;
    }

    public int bar(int cost, int worth) {
        if (!isWithin(cost, 1, DEAREST) || !isWithin(worth, 1, DEAREST)) {
            return refuse(BAD);
        }
        for (int b = NONE; b < DEGREES; b++) {
            if (town.isBarAtRest(b, cost, worth)) {
                return b + 1;
            }
        }
        return NONE;
    }

    // ---- ties

    public int cuts(int street, int doers) {
        Street at = streetWithSet(street, doers);
        if (at == null) {
            return refuse(BAD);
        }
        trial.become(at);
        for (int a = 0; a < at.persons; a++) {
            for (int b = a + 1; b < at.persons; b++) {
                if (at.areNear(a, b) && isCut(at, a, b, doers)) {
                    return pairNumber(a, b);
                }
            }
        }
        return NONE;
    }

    public int adds(int street, int doers, int price) {
        Street at = streetWithSet(street, doers);
        if (at == null || !isWithin(price, 0, PRICIEST)) {
            return refuse(BAD);
        }
        trial.become(at);
        for (int a = 0; a < at.persons; a++) {
            for (int b = a + 1; b < at.persons; b++) {
                if (!at.areNear(a, b) && isAdded(at, a, b, doers, price)) {
                    return pairNumber(a, b);
                }
            }
        }
        return NONE;
    }

    public int less(int street) {
        Street at = town.streetAt(street);
        if (at == null) {
            return refuse(BAD);
        }
        int fewestNow = at.choose(BY_FEWEST, true);
        if (fewestNow == NONE) {
            return refuse(STATE);
        }
        trial.become(at);
        int bound = Integer.bitCount(fewestNow);
        for (int a = 0; a < at.persons; a++) {
            for (int b = a + 1; b < at.persons; b++) {
                if (!at.areNear(a, b) && isLessened(a, b, bound)) {
                    return pairNumber(a, b);
                }
            }
        }
        return NONE;
    }

    // ---- pay and rotas

    public int need(int street, int person, int doers) {
        Street at = town.streetAt(street);
        if (at == null || !at.hasPerson(person) || !at.hasSet(doers)) {
            return refuse(BAD);
        }
        return at.needOf(person, doers);
    }

    public int pay(int street, int doers) {
        Street at = streetWithSet(street, doers);
        if (at == null) {
            return refuse(BAD);
        }
        if (!at.hasMustsIn(doers)) {
            return refuse(STATE);
        }
        int sum = 0;
        for (int p = 0; p < at.persons; p++) {
            sum += at.needOf(p, doers);
        }
        return sum;
    }

    public int few(int street, int doers) {
        Street at = streetWithSet(street, doers);
        if (at == null) {
            return refuse(BAD);
        }
        if (!at.hasMustsIn(doers)) {
            return refuse(STATE);
        }
        int needy = 0;
        for (int p = 0; p < at.persons; p++) {
            if (at.needOf(p, doers) > 0) {
                needy++;
            }
        }
        return needy;
    }

    public int rota(int street, int s, int n) {
        Street at = town.streetAt(street);
        Shelf shelf = shelfAt(s);
        if (at == null || shelf == null || !isWithin(n, 1, PLACES)) {
            return refuse(BAD);
        }
        if (shelf.isWay()) {
            return refuse(OTHER);
        }
        if (!shelf.isRow()) {
            return refuse(NOTHING);
        }
        if (!isRota(at, shelf, n)) {
            return refuse(BAD);
        }
        for (int p = 0; p < at.persons; p++) {
            if (!at.isMust(p) && gainByLeaving(at, p, shelf, n) > 0) {
                return p;
            }
        }
        return NONE;
    }

    // ---- days and hours

    public int doers(int street, int day) {
        Street at = town.streetAt(street);
        if (at == null || !isWithin(day, 0, LAST_DAY)) {
            return refuse(BAD);
        }
        int doing = 0;
        for (int p = 0; p < at.persons; p++) {
            int chance = at.chanceOf(p, day);
            boolean isDrawn = at.wayKind[p] == LOTS && !at.isMust(p);
            if (isDrawn ? town.draw(1000) < chance : chance > 0) {
                doing |= 1 << p;
            }
        }
        return doing;
    }

    public int light(int street, int hour) {
        Street at = town.streetAt(street);
        if (at == null || !isWithin(hour, 1, LAST_HOUR)) {
            return refuse(BAD);
        }
        int left = MILLION;
        for (int h = 1; h <= hour; h++) {
            left = at.lightAfter(left, h);
        }
        return left;
    }

    public int late(int street, int v) {
        Street at = town.streetAt(street);
        if (at == null || !isWithin(v, 0, MILLION)) {
            return refuse(BAD);
        }
        int left = MILLION;
        for (int h = 1; h <= LAST_HOUR; h++) {
            left = at.lightAfter(left, h);
            if (left <= v) {
                return h;
            }
        }
        return NONE;
    }

    public int seed(int v) {
        int ahead = town.chanceSeed;
        town.chanceSeed = v;
        return ahead;
    }

    // ---- a search, and what is kept

    public int begin(int street) {
        Street at = town.streetAt(street);
        if (at == null) {
            return refuse(BAD);
        }
        town.hunt.start(at, street);
        return at.sets();
    }

    public int step(int n) {
        if (!isWithin(n, 1, LONGEST_STEP)) {
            return refuse(BAD);
        }
        if (!town.hunt.isUnderWay || town.hunt.isDone()) {
            return refuse(STATE);
        }
        return town.hunt.advance(n);
    }

    public int search(int what) {
        if (!isWithin(what, 0, 4)) {
            return refuse(BAD);
        }
        Search hunt = town.hunt;
        if (!hunt.isUnderWay) {
            return refuse(STATE);
        }
        switch (what) {
            case 0:
                return hunt.streetNumber;
            case 1:
                return hunt.next;
            case 2:
                return hunt.found;
            case 3:
                return hunt.last;
            default:
                return hunt.isDone() ? 1 : 0;
        }
    }

    public int image() {
        kept.become(town);
        isKept = true;
        return 1;
    }

    public int back() {
        if (!isKept) {
            return refuse(STATE);
        }
        town.become(kept);
        return 1;
    }

    public int status(int what) {
        switch (what) {
            case 0:
                return town.size;
            case 1:
                return tape.size;
            case 2:
                return town.chanceSeed;
            case 3:
                return shelvesInUse();
            default:
                return isWithin(what, 12, 16) ? refused[what - 12] : NONE;
        }
    }

    // ---- what the calls share

    private int refuse(int number) {
        int place = BAD - number;
        if (place >= 0 && place < REFUSALS) {
            refused[place]++;
        }
        return number;
    }

    private static boolean isWithin(int v, int least, int greatest) {
        return v >= least && v <= greatest;
    }

    private Shelf shelfAt(int s) {
        return isWithin(s, 0, SHELVES - 1) ? shelves[s] : null;
    }

    private int shelvesInUse() {
        int used = 0;
        for (int s = 0; s < SHELVES; s++) {
            if (shelves[s].holding != NONE) {
                used++;
            }
        }
        return used;
    }

    /** Null unless there is such a STREET and the set has PERSONS of it alone. */
    private Street streetWithSet(int street, int set) {
        Street at = town.streetAt(street);
        return at != null && at.hasSet(set) ? at : null;
    }

    private static boolean isWayToldBy(int kind, int a) {
        switch (kind) {
            case SURE:
                return isWithin(a, 0, 1);
            case LOTS:
                return isWithin(a, 0, 1000);
            case DEGREE:
                return isWithin(a, 0, PEOPLE - 1);
            case TURN:
                return isWithin(a, 100, 999) && a % 100 < a / 100;
            case ANSWER:
                return isWithin(a, 0, SHELVES - 1);
            default:
                return false;
        }
    }

    private int restBy(int street, int by) {
        Street at = town.streetAt(street);
        return at == null ? refuse(BAD) : at.choose(by, true);
    }

    private int belowGood(int street, int by) {
        Street at = town.streetAt(street);
        if (at == null) {
            return refuse(BAD);
        }
        int atRest = at.choose(by, true);
        if (atRest == NONE) {
            return NONE;
        }
        return at.goodOf(at.choose(BY_GOOD, false)) - at.goodOf(atRest);
    }

    private static boolean isAlike(int cost, int worth, int near) {
        return isWithin(cost, 1, DEAREST) && isWithin(worth, 1, DEAREST) && isWithin(near, 1, DEGREES - 1);
    }

    private static int greatestLot(int cost, int worth, int near) {
        for (int x = 1000; x > 0; x--) {
            if (worth * power(1000 - x, near) >= cost * power(1000, near)) {
                return x;
            }
        }
        return 0;
    }

    private static long power(long base, int n) {
        long product = 1;
        for (int i = 0; i < n; i++) {
            product *= base;
        }
        return product;
    }

    private static int pairNumber(int a, int b) {
        return 100 * a + b;
    }

    /** The trial is as the street is, ahead of this and behind it. */
    private boolean isCut(Street at, int a, int b, int doing) {
        trial.part(a, b);
        boolean gains = trial.gainOf(a, doing) > at.gainOf(a, doing)
            || trial.gainOf(b, doing) > at.gainOf(b, doing);
        trial.join(a, b, at.priceOf(a, b));
        return gains;
    }

    /** The trial is as the street is, ahead of this and behind it. */
    private boolean isAdded(Street at, int a, int b, int doing, int price) {
        trial.join(a, b, price);
        boolean gain = trial.gainOf(a, doing) > at.gainOf(a, doing)
            && trial.gainOf(b, doing) > at.gainOf(b, doing);
        trial.part(a, b);
        return gain;
    }

    /** The trial is as the street is, ahead of this and behind it. */
    private boolean isLessened(int a, int b, int bound) {
        trial.join(a, b, 0);
        boolean lessened = trial.hasRestBelow(bound);
        trial.part(a, b);
        return lessened;
    }

    private static boolean isRota(Street at, Shelf shelf, int n) {
        if (!shelf.hasPlaces(0, n)) {
            return false;
        }
        for (int day = 0; day < n; day++) {
            long doing = shelf.told(day);
            if (doing < 0 || doing >= at.sets()) {
                return false;
            }
        }
        return true;
    }

    private static int gainByLeaving(Street at, int person, Shelf shelf, int n) {
        int sum = 0;
        for (int day = 0; day < n; day++) {
            int doing = (int) shelf.told(day) | at.musts;
            sum += at.gainOf(person, doing & ~(1 << person)) - at.gainOf(person, doing);
        }
        return sum;
    }

    /** What a SHELF holds: NOTHING, a ROW, or a WAY. */
    private static final class Shelf {
        private final long[] places = new long[PLACES];
        /** As the call holds() tells it: NONE, the SORT of a ROW, or 10 and the KIND of a WAY. */
        private int holding = NONE;
        private int size;
        private int wayTold;

        private boolean isRow() {
            return holding >= BYTES && holding <= BOOLEANS;
        }

        private boolean isWay() {
            return holding >= WAY_BASE;
        }

        private int wayKind() {
            return holding - WAY_BASE;
        }

        private void putRow(int sort, int n) {
            holding = sort;
            size = n;
            Arrays.fill(places, 0L);
        }

        private void putWay(int kind, int a) {
            holding = WAY_BASE + kind;
            size = 0;
            wayTold = a;
        }

        private boolean hasPlaces(int i, int n) {
            return i >= 0 && n >= 0 && i <= size && n <= size - i;
        }

        private void put(int i, long v) {
            if (i < 0 || i >= PLACES) {
                return;
            }
            switch (holding) {
                case BYTES:
                    places[i] = (byte) v;
                    break;
                case SHORTS:
                    places[i] = (short) v;
                    break;
                case INTS:
                    places[i] = (int) v;
                    break;
                case BOOLEANS:
                    places[i] = v != 0 ? 1 : 0;
                    break;
                default:
                    places[i] = v;
                    break;
            }
        }

        private long told(int i) {
            return isRow() && hasPlaces(i, 1) ? places[i] : 0;
        }

        private int toldSet() {
            int doing = 0;
            for (int p = 0; p < PEOPLE; p++) {
                if (told(p) != 0) {
                    doing |= 1 << p;
                }
            }
            return doing;
        }

        private boolean isOfKind(int kind) {
            int own = wayKind();
            return kind == own || kind == WAY
                || kind == SURE && own == LOTS
                || kind == DEGREE && own == TURN;
        }

        private int saidAs(int kind) {
            if (kind == WAY) {
                return 0;
            }
            if (kind == SURE && wayKind() == LOTS) {
                return wayTold > 500 ? 1 : 0;
            }
            if (kind == DEGREE && wayKind() == TURN) {
                return wayTold / 100;
            }
            return wayTold;
        }
    }

    /** THE TAPE, and the STREET that is read from it TOKEN by TOKEN. */
    private static final class Reader {
        private static final int END = 0;
        private static final int WORD = 1;
        private static final int NUMBER = 2;
        private static final int SIGN = 3;
        private static final int STRANGE = 4;
        private static final int LONGEST_NUMBER = 3;
        /** Greater than any NUMBER that may be. */
        private static final int TOO_GREAT = 1000;

        private final int[] bytes = new int[TAPE];
        private int size;
        private int sort;
        /** The first byte of the TOKEN at hand: the FAULT, where this one can't stand. */
        private int start;
        private int behind;
        private int passed;

        private void append(int b) {
            if (size < TAPE) {
                bytes[size] = b;
                size++;
            }
        }

        private void empty() {
            size = 0;
        }

        private boolean readStreet(Street street) {
            behind = 0;
            advance();
            if (!passWord("people") || !passNumber(1, PEOPLE)) {
                return false;
            }
            street.clear(passed);
            for (int i = 0; i < TAPE && sort == SIGN; i++) {
                advance();
                if (!readStatement(street)) {
                    return false;
                }
            }
            return sort == END;
        }

        private boolean readStatement(Street street) {
            if (passWord("cost")) {
                return readForAll(street.cost);
            }
            if (passWord("worth")) {
                return readForAll(street.worth);
            }
            if (passWord("more")) {
                return readMore(street);
            }
            if (passWord("one")) {
                return readOne(street);
            }
            if (passWord("tie")) {
                return readTie(street);
            }
            if (passWord("must")) {
                return readMust(street);
            }
            if (street.persons >= 3 && passWord("ring")) {
                street.joinNeighbours();
                return true;
            }
            if (passWord("all")) {
                street.joinAll();
                return true;
            }
            return false;
        }

        private boolean readForAll(int[] row) {
            if (!passNumber(0, DEAREST)) {
                return false;
            }
            Arrays.fill(row, passed);
            return true;
        }

        private boolean readMore(Street street) {
            if (!passNumber(0, PRICIEST)) {
                return false;
            }
            street.more = passed;
            return true;
        }

        private boolean readOne(Street street) {
            if (!passNumber(0, street.persons - 1)) {
                return false;
            }
            int person = passed;
            if (!passWord("cost") || !passNumber(0, DEAREST)) {
                return false;
            }
            int cost = passed;
            if (!passWord("worth") || !passNumber(0, DEAREST)) {
                return false;
            }
            street.value(person, cost, passed);
            return true;
        }

        private boolean readTie(Street street) {
            if (!passNumber(0, street.persons - 1)) {
                return false;
            }
            int a = passed;
            // one and himself: the second NUMBER is the TOKEN that can't stand
            if (sort == NUMBER && numberAtHand() == a || !passNumber(0, street.persons - 1)) {
                return false;
            }
            int b = passed;
            int price = 0;
            if (passWord("price")) {
                if (!passNumber(0, PRICIEST)) {
                    return false;
                }
                price = passed;
            }
            street.join(a, b, price);
            return true;
        }

        private boolean readMust(Street street) {
            if (!passNumber(0, street.persons - 1)) {
                return false;
            }
            street.setMust(passed, true);
            return true;
        }

        private boolean passNumber(int least, int greatest) {
            int number = sort == NUMBER ? numberAtHand() : NONE;
            if (sort != NUMBER || number < least || number > greatest) {
                return false;
            }
            passed = number;
            advance();
            return true;
        }

        private boolean passWord(String word) {
            if (!isWord(word)) {
                return false;
            }
            advance();
            return true;
        }

        private boolean isWord(String word) {
            if (sort != WORD || word.length() != behind - start) {
                return false;
            }
            for (int i = 0; i < word.length() && start + i < TAPE; i++) {
                if (bytes[start + i] != word.charAt(i)) {
                    return false;
                }
            }
            return true;
        }

        private int numberAtHand() {
            if (behind - start > LONGEST_NUMBER) {
                return TOO_GREAT;
            }
            int number = 0;
            for (int i = start; i < behind && i < TAPE; i++) {
                number = 10 * number + bytes[i] - '0';
            }
            return number;
        }

        private void advance() {
            start = behind;
            while (start < size && start < TAPE && bytes[start] == ' ') {
                start++;
            }
            behind = start;
            if (start >= size || start >= TAPE) {
                sort = END;
                return;
            }
            sort = sortOf(bytes[start]);
            behind++;
            if (sort == SIGN || sort == STRANGE) {
                return;
            }
            while (behind < size && behind < TAPE && sortOf(bytes[behind]) == sort) {
                behind++;
            }
        }

        private static int sortOf(int b) {
            if (b >= 'a' && b <= 'z') {
                return WORD;
            }
            if (b >= '0' && b <= '9') {
                return NUMBER;
            }
            return b == ';' ? SIGN : STRANGE;
        }
    }

    /** A STREET: its PERSONS, who is NEAR whom at which PRICE, and what follows from that. */
    private static final class Street {
        private final int[] cost = new int[PEOPLE];
        private final int[] worth = new int[PEOPLE];
        private final int[] near = new int[PEOPLE];
        private final int[] wayKind = new int[PEOPLE];
        private final int[] wayTold = new int[PEOPLE];
        /** The PRICE of two at 12 times the one, and the other; 0 where they aren't NEAR. */
        private final int[] price = new int[PEOPLE * PEOPLE];
        /** Of each PERSON the PRICES of his ties together: every GAIN asks for them. */
        private final int[] pays = new int[PEOPLE];
        private int persons;
        private int more;
        private int musts;

        private void clear(int n) {
            persons = n;
            more = 0;
            musts = 0;
            Arrays.fill(cost, 0);
            Arrays.fill(worth, 0);
            Arrays.fill(near, 0);
            Arrays.fill(wayKind, NONE);
            Arrays.fill(wayTold, 0);
            Arrays.fill(price, 0);
            Arrays.fill(pays, 0);
        }

        private void become(Street other) {
            persons = other.persons;
            more = other.more;
            musts = other.musts;
            System.arraycopy(other.cost, 0, cost, 0, PEOPLE);
            System.arraycopy(other.worth, 0, worth, 0, PEOPLE);
            System.arraycopy(other.near, 0, near, 0, PEOPLE);
            System.arraycopy(other.wayKind, 0, wayKind, 0, PEOPLE);
            System.arraycopy(other.wayTold, 0, wayTold, 0, PEOPLE);
            System.arraycopy(other.price, 0, price, 0, PEOPLE * PEOPLE);
            System.arraycopy(other.pays, 0, pays, 0, PEOPLE);
        }

        // PERSONS and sets of them

        private boolean hasPerson(int person) {
            return person >= 0 && person < persons && person < PEOPLE;
        }

        private boolean hasPair(int a, int b) {
            return hasPerson(a) && hasPerson(b) && a != b;
        }

        private int sets() {
            return 1 << persons;
        }

        private boolean hasSet(int set) {
            return set >= 0 && set < sets();
        }

        private boolean hasMustsIn(int doing) {
            return (musts & ~doing) == 0;
        }

        private static boolean isIn(int person, int set) {
            return (set & (1 << person)) != 0;
        }

        private boolean isMust(int person) {
            return isIn(person, musts);
        }

        private void setMust(int person, boolean is) {
            int bit = 1 << person;
            musts = is ? musts | bit : musts & ~bit;
        }

        private void value(int person, int costs, int isWorth) {
            if (hasPerson(person)) {
                cost[person] = costs;
                worth[person] = isWorth;
            }
        }

        private void giveWay(int person, int kind, int told) {
            if (hasPerson(person)) {
                wayKind[person] = kind;
                wayTold[person] = told;
            }
        }

        private int admit(int nearOnes, int costs, int isWorth) {
            int person = persons;
            if (person >= PEOPLE) {
                return NONE;
            }
            persons++;
            value(person, costs, isWorth);
            giveWay(person, NONE, 0);
            for (int p = 0; p < person; p++) {
                if (isIn(p, nearOnes)) {
                    join(person, p, 0);
                }
            }
            return person;
        }

        // ties

        private boolean areNear(int a, int b) {
            return hasPair(a, b) && isIn(b, near[a]);
        }

        private int priceOf(int a, int b) {
            return areNear(a, b) ? price[PEOPLE * a + b] : NONE;
        }

        private void join(int a, int b, int at) {
            if (hasPair(a, b)) {
                near[a] |= 1 << b;
                near[b] |= 1 << a;
                priceAt(a, b, at);
                priceAt(b, a, at);
            }
        }

        private void part(int a, int b) {
            if (hasPair(a, b)) {
                near[a] &= ~(1 << b);
                near[b] &= ~(1 << a);
                priceAt(a, b, 0);
                priceAt(b, a, 0);
            }
        }

        private void priceAt(int a, int b, int at) {
            int place = PEOPLE * a + b;
            pays[a] += at - price[place];
            price[place] = at;
        }

        private void joinNeighbours() {
            for (int p = 0; p < persons; p++) {
                int next = p + 1 < persons ? p + 1 : 0;
                if (!areNear(p, next)) {
                    join(p, next, 0);
                }
            }
        }

        private void joinAll() {
            for (int a = 0; a < persons; a++) {
                for (int b = a + 1; b < persons; b++) {
                    if (!areNear(a, b)) {
                        join(a, b, 0);
                    }
                }
            }
        }

        private int ties() {
            int ends = 0;
            for (int p = 0; p < persons; p++) {
                ends += Integer.bitCount(near[p]);
            }
            return ends / 2;
        }

        private int prices() {
            int sum = 0;
            for (int p = 0; p < persons; p++) {
                sum += pays[p];
            }
            return sum / 2;
        }

        // GAINS, and RESTS

        private int gainOf(int person, int doing) {
            int helpers = Integer.bitCount((near[person] | 1 << person) & doing);
            int gained = helpers > 0 ? worth[person] + more * (helpers - 1) : 0;
            int spent = isIn(person, doing) ? cost[person] : 0;
            return gained - spent - pays[person];
        }

        private int goodOf(int doing) {
            int sum = 0;
            for (int p = 0; p < persons; p++) {
                sum += gainOf(p, doing);
            }
            return sum;
        }

        /**
         * What he GAINS by doing over not doing, the others as told. Of the GAIN just this differs:
         * the first HELPER brings WORTH, each other one MORE. Thus nothing is counted, and the many
         * sets of a STREET are gone through fast.
         */
        private int edge(int person, int doing) {
            int brings = (near[person] & doing) == 0 ? worth[person] : more;
            return brings - cost[person];
        }

        /** What he GAINS more by doing, if he doesn't, or by not doing, if he does. */
        private int gainByChange(int person, int doing) {
            int byDoing = edge(person, doing);
            return isIn(person, doing) ? -byDoing : byDoing;
        }

        private boolean wouldChange(int person, int doing) {
            return !isMust(person) && gainByChange(person, doing) > 0;
        }

        private int needOf(int person, int doing) {
            return wouldChange(person, doing) ? gainByChange(person, doing) : 0;
        }

        private int firstRestless(int doing) {
            for (int p = 0; p < persons; p++) {
                if (isMust(p) ? !isIn(p, doing) : gainByChange(p, doing) > 0) {
                    return p;
                }
            }
            return NONE;
        }

        private boolean isRest(int doing) {
            return firstRestless(doing) == NONE;
        }

        private int rests() {
            int found = 0;
            for (int set = 0; set < sets(); set++) {
                if (isRest(set)) {
                    found++;
                }
            }
            return found;
        }

        private int restNumber(int i) {
            int found = 0;
            for (int set = 0; set < sets(); set++) {
                if (isRest(set)) {
                    if (found == i) {
                        return set;
                    }
                    found++;
                }
            }
            return NONE;
        }

        private boolean hasRestBelow(int bound) {
            for (int set = 0; set < sets(); set++) {
                if (Integer.bitCount(set) < bound && isRest(set)) {
                    return true;
                }
            }
            return false;
        }

        /** The first set of the greatest value, of all that have those that MUST, or of RESTS. */
        private int choose(int by, boolean restsAlone) {
            int chosen = NONE;
            int greatest = 0;
            for (int set = 0; set < sets(); set++) {
                if (restsAlone ? !isRest(set) : !hasMustsIn(set)) {
                    continue;
                }
                int value = valueOf(set, by);
                if (chosen == NONE || value > greatest) {
                    chosen = set;
                    greatest = value;
                }
            }
            return chosen;
        }

        private int valueOf(int set, int by) {
            switch (by) {
                case BY_FEWEST:
                    return -Integer.bitCount(set);
                case BY_MOST:
                    return Integer.bitCount(set);
                case BY_COST:
                    return -costOf(set);
                case BY_HARM:
                    return -goodOf(set);
                default:
                    return goodOf(set);
            }
        }

        private int costOf(int set) {
            int sum = 0;
            for (int p = 0; p < persons; p++) {
                if (isIn(p, set)) {
                    sum += cost[p];
                }
            }
            return sum;
        }

        private int afterRound(int doing) {
            int set = doing;
            for (int p = 0; p < persons; p++) {
                if (wouldChange(p, set)) {
                    set ^= 1 << p;
                }
            }
            return set;
        }

        // WAYS

        /** With how many thousandths he does on a DAY; 1000 or 0 but of LOTS. */
        private int chanceOf(int person, int day) {
            if (isMust(person)) {
                return 1000;
            }
            if (wayKind[person] == LOTS) {
                return wayTold[person];
            }
            return doesSurely(person, day) ? 1000 : 0;
        }

        private boolean doesSurely(int person, int day) {
            int told = wayTold[person];
            switch (wayKind[person]) {
                case SURE:
                    return told == 1;
                case DEGREE:
                    return Integer.bitCount(near[person]) <= told;
                case TURN:
                    int days = told / 100;
                    return days > 0 && day % days == told % 100;
                case ANSWER:
                    return edge(person, told) > 0;
                default:
                    return false;
            }
        }

        private int lightAfter(int left, int hour) {
            int still = left;
            for (int p = 0; p < persons; p++) {
                still = still * (1000 - chanceOf(p, hour)) / 1000;
            }
            return still;
        }
    }

    /** How it goes on IN TURN, till a REST or till a RING is closed. */
    private static final class Course {
        private static final int SETS = 1 << PEOPLE;

        /** A bit for each set behind a round so far. */
        private final long[] seen = new long[SETS / 64];
        private int end;
        private int changes;
        private int ringRounds;

        private void run(Street street, int from) {
            Arrays.fill(seen, 0L);
            end = from;
            changes = 0;
            ringRounds = 0;
            for (int round = 0; round <= SETS; round++) {
                see(end);
                int ahead = end;
                end = street.afterRound(ahead);
                // in one round each changes once at most
                changes += Integer.bitCount(ahead ^ end);
                if (end == ahead) {
                    return;
                }
                if (isSeen(end)) {
                    ringRounds = roundsBackTo(street, end);
                    return;
                }
            }
        }

        private static int roundsBackTo(Street street, int set) {
            int at = set;
            for (int n = 1; n <= SETS; n++) {
                at = street.afterRound(at);
                if (at == set) {
                    return n;
                }
            }
            return 0;
        }

        private void see(int set) {
            if (set >= 0 && set < SETS) {
                seen[set / 64] |= 1L << (set % 64);
            }
        }

        private boolean isSeen(int set) {
            return set >= 0 && set < SETS && (seen[set / 64] & (1L << (set % 64))) != 0;
        }
    }

    /** A SEARCH for RESTS of a STREET as it was when it began. */
    private static final class Search {
        private final Street street = new Street();
        private boolean isUnderWay;
        private int streetNumber;
        private int next;
        private int found;
        private int last;

        private void start(Street at, int number) {
            street.become(at);
            isUnderWay = true;
            streetNumber = number;
            next = 0;
            found = 0;
            last = NONE;
        }

        private void become(Search other) {
            street.become(other.street);
            isUnderWay = other.isUnderWay;
            streetNumber = other.streetNumber;
            next = other.next;
            found = other.found;
            last = other.last;
        }

        private boolean isDone() {
            return next >= street.sets();
        }

        private int advance(int n) {
            int ahead = found;
            for (int i = 0; i < n && !isDone(); i++) {
                if (street.isRest(next)) {
                    found++;
                    last = next;
                }
                next++;
            }
            return found - ahead;
        }
    }

    /** All that an image keeps. */
    private static final class Town {
        private final Street[] streets = new Street[STREETS];
        private final int[] known = new int[DEGREES];
        private final Search hunt = new Search();
        private int size;
        private int chanceSeed = 1;

        private Town() {
            for (int i = 0; i < STREETS; i++) {
                streets[i] = new Street();
            }
        }

        private void become(Town other) {
            for (int i = 0; i < other.size && i < STREETS; i++) {
                streets[i].become(other.streets[i]);
            }
            System.arraycopy(other.known, 0, known, 0, DEGREES);
            hunt.become(other.hunt);
            size = other.size;
            chanceSeed = other.chanceSeed;
        }

        private Street streetAt(int number) {
            return number >= 0 && number < size && number < STREETS ? streets[number] : null;
        }

        private Street placeForNext() {
            return size >= 0 && size < STREETS ? streets[size] : null;
        }

        private int draw(int below) {
            chanceSeed = chanceSeed * 1103515245 + 12345;
            return below > 0 ? (chanceSeed >>> 16) % below : 0;
        }

        private boolean isBarAtRest(int b, int cost, int worth) {
            long all = endsUpTo(DEGREES - 1);
            long above = all - endsUpTo(b);
            for (int d = 0; d < DEGREES; d++) {
                boolean wouldDo = worth * power(above, d) >= cost * power(all, d);
                if (known[d] > 0 && wouldDo != (d <= b)) {
                    return false;
                }
            }
            return true;
        }

        private int endsUpTo(int b) {
            int sum = 0;
            for (int d = 0; d <= b && d < DEGREES; d++) {
                sum += d * known[d];
            }
            return sum;
        }
    }
}
