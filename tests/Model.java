import java.math.BigInteger;
import java.util.ArrayList;
import java.util.Arrays;
import java.util.List;
import java.util.function.IntPredicate;
import java.util.function.LongSupplier;
import java.util.function.ToIntFunction;
import java.util.stream.IntStream;

/**
 * The document told once more, in its own words and by no care for speed: each call of the face stands
 * here under its name, so that whatever is asked of the class can be asked of this, too.
 */
final class Model {
    private static final int NONE = -1;
    private static final int HOURS = 99;

    /** A call is refused by a number. */
    private static final class Refused extends RuntimeException {
        private static final long serialVersionUID = 1L;
        private final int number;

        Refused(int number) {
            super(null, null, false, false);
            this.number = number;
        }
    }

    /** A TOKEN can't stand there. */
    private static final class Fault extends Exception {
        private static final long serialVersionUID = 1L;
        private final int place;

        Fault(int place) {
            super(null, null, false, false);
            this.place = place;
        }
    }

    private record Row(int sort, long[] v) {
    }

    /** What it is told by: a number, or (of ANSWER) a set. */
    private record Way(int kind, int a) {
    }

    private record Token(char sort, String text, int place) {
    }

    private static final class Person {
        private int cost;
        private int worth;
        private boolean must;
        private Way way;

        private Person copy() {
            Person p = new Person();
            p.cost = cost;
            p.worth = worth;
            p.must = must;
            p.way = way;
            return p;
        }
    }

    /** Prices: NONE of two that aren't NEAR. */
    private static final class Street {
        private final List<Person> people = new ArrayList<>();
        private final int[][] price = new int[12][12];
        private int more;

        private Street() {
            for (int[] row : price) {
                Arrays.fill(row, NONE);
            }
        }

        private Street copy() {
            Street s = new Street();
            people.forEach(p -> s.people.add(p.copy()));
            for (int a = 0; a < 12; a++) {
                s.price[a] = price[a].clone();
            }
            s.more = more;
            return s;
        }

        private int n() {
            return people.size();
        }

        private int sets() {
            int sets = 1;
            for (int p = 0; p < n(); p++) {
                sets *= 2;
            }
            return sets;
        }

        private boolean near(int a, int b) {
            return price[a][b] != NONE;
        }

        private void tie(int a, int b, int at) {
            price[a][b] = at;
            price[b][a] = at;
        }

        private int nearOnes(int person) {
            return setOf(n(), p -> near(person, p));
        }

        private int musts() {
            return setOf(n(), p -> people.get(p).must);
        }

        private int prices(int person) {
            return IntStream.range(0, n()).filter(p -> near(person, p)).map(p -> price[person][p]).sum();
        }

        private int gain(int person, int doers) {
            int helpers = in(person, doers) ? 1 : 0;
            for (int p = 0; p < n(); p++) {
                helpers += near(person, p) && in(p, doers) ? 1 : 0;
            }
            int gain = 0;
            if (helpers > 0) {
                gain = people.get(person).worth + more * (helpers - 1);
            }
            if (in(person, doers)) {
                gain -= people.get(person).cost;
            }
            return gain - prices(person);
        }

        private int good(int doers) {
            return IntStream.range(0, n()).map(p -> gain(p, doers)).sum();
        }

        /** The set in which this PERSON alone is otherwise than in the one told. */
        private int changed(int person, int doers) {
            return in(person, doers) ? doers - bit(person) : doers + bit(person);
        }

        private int gainsMore(int person, int doers) {
            return gain(person, changed(person, doers)) - gain(person, doers);
        }

        private boolean would(int person, int doers) {
            return !people.get(person).must && gainsMore(person, doers) > 0;
        }

        private int judge(int doers) {
            for (int p = 0; p < n(); p++) {
                if (would(p, doers) || people.get(p).must && !in(p, doers)) {
                    return p;
                }
            }
            return NONE;
        }

        private int[] rests() {
            return IntStream.range(0, sets()).filter(set -> judge(set) == NONE).toArray();
        }

        private int costs(int doers) {
            return IntStream.range(0, n()).filter(p -> in(p, doers)).map(p -> people.get(p).cost).sum();
        }

        private boolean mustsDo(int doers) {
            return IntStream.range(0, n()).allMatch(p -> in(p, doers) || !people.get(p).must);
        }

        private boolean does(int person, int day) {
            Way way = people.get(person).way;
            switch (way.kind) {
                case 1:
                    return way.a == 1;
                case 3:
                    return Integer.bitCount(nearOnes(person)) <= way.a;
                case 4:
                    return day % (way.a / 100) == way.a % 100;
                default:
                    int others = in(person, way.a) ? changed(person, way.a) : way.a;
                    return gainsMore(person, others) > 0;
            }
        }

        private int chance(int person, int day) {
            Person p = people.get(person);
            if (p.must) {
                return 1000;
            }
            if (p.way == null) {
                return 0;
            }
            return p.way.kind == 2 ? p.way.a : does(person, day) ? 1000 : 0;
        }

        private int light(int hour) {
            int light = 1000000;
            for (int h = 1; h <= hour; h++) {
                for (int p = 0; p < n(); p++) {
                    light = light * (1000 - chance(p, h)) / 1000;
                }
            }
            return light;
        }
    }

    private static final class Search {
        private Street street;
        private int number;
        private int next;
        private int found;
        private int last = NONE;

        private Search copy() {
            Search s = new Search();
            s.street = street.copy();
            s.number = number;
            s.next = next;
            s.found = found;
            s.last = last;
            return s;
        }
    }

    /** All that an image keeps. */
    private static final class Kept {
        private final List<Street> streets = new ArrayList<>();
        private final int[] known = new int[6];
        private int seed = 1;
        private Search search;

        private Kept copy() {
            Kept k = new Kept();
            streets.forEach(s -> k.streets.add(s.copy()));
            System.arraycopy(known, 0, k.known, 0, 6);
            k.seed = seed;
            k.search = search == null ? null : search.copy();
            return k;
        }
    }

    private final Object[] shelves = new Object[8];
    private final int[] refused = new int[7];
    private String tape = "";
    private Kept now = new Kept();
    private Kept image;

    // ---- what is refused

    private int call(LongSupplier made) {
        return (int) told(0, made);
    }

    private int gains(LongSupplier made) {
        return (int) told(-1000000, made);
    }

    private long told(int below, LongSupplier made) {
        try {
            return made.getAsLong();
        } catch (Refused no) {
            refused[-no.number]++;
            return below + no.number;
        }
    }

    private static void refuseIf(boolean is, int number) {
        if (is) {
            throw new Refused(number);
        }
    }

    private static void badUnless(boolean may) {
        refuseIf(!may, -2);
    }

    private static boolean within(long v, long least, long greatest) {
        return least <= v && v <= greatest;
    }

    private void shelf(int s) {
        badUnless(within(s, 0, 7));
    }

    private Row rowIn(int s) {
        refuseIf(shelves[s] instanceof Way, -3);
        refuseIf(shelves[s] == null, -4);
        return (Row) shelves[s];
    }

    private Way wayIn(int s) {
        refuseIf(shelves[s] instanceof Row, -3);
        refuseIf(shelves[s] == null, -4);
        return (Way) shelves[s];
    }

    private Street at(int street) {
        badUnless(within(street, 0, now.streets.size() - 1));
        return now.streets.get(street);
    }

    private Person at(int street, int person) {
        Street at = at(street);
        badUnless(within(person, 0, at.n() - 1));
        return at.people.get(person);
    }

    private Street of(int street, int doers) {
        Street at = at(street);
        badUnless(within(doers, 0, at.sets() - 1));
        return at;
    }

    // ---- sets as numbers

    private static int bit(int person) {
        int bit = 1;
        for (int p = 0; p < person; p++) {
            bit *= 2;
        }
        return bit;
    }

    private static boolean in(int person, int set) {
        return set / bit(person) % 2 == 1;
    }

    private static int setOf(int n, IntPredicate isIn) {
        return IntStream.range(0, n).filter(isIn).map(Model::bit).sum();
    }

    private static int firstOfGreatest(int[] sets, ToIntFunction<Integer> value) {
        int first = NONE;
        for (int set : sets) {
            if (first == NONE || value.applyAsInt(set) > value.applyAsInt(first)) {
                first = set;
            }
        }
        return first;
    }

    // ---- 2 to 8

    int row(int s, int sort, int n) {
        return call(() -> {
            shelf(s);
            badUnless(within(sort, 0, 4) && within(n, 0, 40));
            shelves[s] = new Row(sort, new long[n]);
            return 1;
        });
    }

    private static long lowestBits(int sort, long v) {
        long[] bits = {8, 16, 32, 64};
        if (sort == 4) {
            return v == 0 ? 0 : 1;
        }
        return BigInteger.valueOf(v).shiftLeft((int) (64 - bits[sort])).longValue() >> (64 - bits[sort]);
    }

    int set(int s, int i, long v) {
        return call(() -> {
            shelf(s);
            Row row = rowIn(s);
            badUnless(within(i, 0, row.v.length - 1));
            row.v[i] = lowestBits(row.sort, v);
            return 1;
        });
    }

    int copy(int p, int q, int i, int j, int n) {
        return call(() -> {
            shelf(p);
            shelf(q);
            refuseIf(shelves[p] instanceof Way || shelves[q] instanceof Way, -3);
            refuseIf(shelves[p] instanceof Row a && shelves[q] instanceof Row b && a.sort != b.sort, -3);
            Row from = rowIn(p);
            Row to = rowIn(q);
            badUnless(n >= 0 && within(i, 0, from.v.length - (long) n) && within(j, 0, to.v.length - (long) n));
            long[] were = from.v.clone();
            for (int k = 0; k < n; k++) {
                to.v[j + k] = were[i + k];
            }
            return n;
        });
    }

    long element(int s, int i) {
        if (!within(s, 0, 7) || !(shelves[s] instanceof Row row)) {
            return 0;
        }
        return within(i, 0, row.v.length - 1) ? row.v[i] : 0;
    }

    int holds(int s) {
        if (!within(s, 0, 7) || shelves[s] == null) {
            return NONE;
        }
        return shelves[s] instanceof Row row ? row.sort : 10 + ((Way) shelves[s]).kind;
    }

    int way(int s, int kind, int a) {
        return call(() -> {
            shelf(s);
            badUnless(within(kind, 1, 5));
            badUnless(kind != 1 || within(a, 0, 1));
            badUnless(kind != 2 || within(a, 0, 1000));
            badUnless(kind != 3 || within(a, 0, 11));
            badUnless(kind != 4 || within(a / 100, 1, 9) && within(a % 100, 0, a / 100 - 1));
            if (kind == 5) {
                shelf(a);
                Row row = rowIn(a);
                shelves[s] = new Way(5, setOf(Math.min(12, row.v.length), p -> row.v[p] != 0));
            } else {
                shelves[s] = new Way(kind, a);
            }
            return 1;
        });
    }

    int says(int s, int kind) {
        return call(() -> {
            shelf(s);
            badUnless(within(kind, 0, 5));
            Way way = wayIn(s);
            int[] under = {NONE, 0, 1, 0, 3, 0};
            int is = way.kind;
            while (is != kind && is != NONE) {
                is = under[is];
            }
            refuseIf(is == NONE, -3);
            if (kind == 0) {
                return 0;
            }
            if (kind == 1 && way.kind == 2) {
                return way.a > 500 ? 1 : 0;
            }
            return kind == 3 && way.kind == 4 ? way.a / 100 : way.a;
        });
    }

    // ---- 9 to 11

    int feed(int v, int n) {
        return call(() -> {
            badUnless(within(n, 1, 4));
            refuseIf(tape.length() + n > 160, -6);
            for (int i = 4 - n; i < 4; i++) {
                tape += (char) (v >> (24 - 8 * i) & 0xff);
            }
            return tape.length();
        });
    }

    int wipe() {
        int ahead = tape.length();
        tape = "";
        return ahead;
    }

    int street() {
        return call(() -> {
            refuseIf(now.streets.size() == 4, -6);
            String text = tape;
            tape = "";
            try {
                now.streets.add(new Reading(text).street());
                return now.streets.size() - 1;
            } catch (Fault at) {
                refused[2]++;
                return -20 - at.place;
            }
        });
    }

    /** What stands on THE TAPE, cut into TOKENS first. */
    private static final class Reading {
        private final List<Token> tokens = new ArrayList<>();
        private int next;

        private Reading(String text) {
            java.util.regex.Matcher m = java.util.regex.Pattern.compile("([a-z]+)|([0-9]+)|(;)|( +)|([^a-z0-9; ])",
                java.util.regex.Pattern.DOTALL).matcher(text);
            while (m.find()) {
                if (m.group(4) == null) {
                    char sort = m.group(1) != null ? 'w' : m.group(2) != null ? 'n' : m.group(3) != null ? ';' : '?';
                    tokens.add(new Token(sort, m.group(), m.start()));
                }
            }
            tokens.add(new Token('.', "", text.length()));
        }

        private Token token() {
            return tokens.get(next);
        }

        private boolean isWord(String word) {
            return token().sort == 'w' && token().text.equals(word);
        }

        private void word(String word) throws Fault {
            if (!isWord(word)) {
                throw new Fault(token().place);
            }
            next++;
        }

        private int number(IntPredicate may) throws Fault {
            Token t = token();
            if (t.sort != 'n' || t.text.length() > 3 || !may.test(Integer.parseInt(t.text))) {
                throw new Fault(t.place);
            }
            next++;
            return Integer.parseInt(t.text);
        }

        private int upTo(int greatest) throws Fault {
            return number(v -> v <= greatest);
        }

        private Street street() throws Fault {
            Street s = new Street();
            word("people");
            int n = number(v -> v >= 1 && v <= 12);
            for (int p = 0; p < n; p++) {
                s.people.add(new Person());
            }
            while (token().sort == ';') {
                next++;
                statement(s, n);
            }
            if (token().sort != '.') {
                throw new Fault(token().place);
            }
            return s;
        }

        private void statement(Street s, int n) throws Fault {
            Token first = token();
            boolean may = first.sort == 'w' && List.of("cost", "worth", "more", "one", "tie", "must", "ring", "all").contains(first.text);
            if (!may || first.text.equals("ring") && n < 3) {
                throw new Fault(first.place);
            }
            next++;
            switch (first.text) {
                case "cost" -> {
                    int v = upTo(99);
                    s.people.forEach(p -> p.cost = v);
                }
                case "worth" -> {
                    int v = upTo(99);
                    s.people.forEach(p -> p.worth = v);
                }
                case "more" -> s.more = upTo(9);
                case "must" -> s.people.get(upTo(n - 1)).must = true;
                case "one" -> one(s, n);
                case "tie" -> tie(s, n);
                default -> near(s, n, first.text.equals("all"));
            }
        }

        private void one(Street s, int n) throws Fault {
            Person p = s.people.get(upTo(n - 1));
            word("cost");
            p.cost = upTo(99);
            word("worth");
            p.worth = upTo(99);
        }

        private void tie(Street s, int n) throws Fault {
            int a = upTo(n - 1);
            int b = number(v -> v < n && v != a);
            int at = 0;
            if (isWord("price")) {
                next++;
                at = upTo(9);
            }
            s.tie(a, b, at);
        }

        private static void near(Street s, int n, boolean all) {
            for (int a = 0; a < n; a++) {
                for (int b = 0; b < n; b++) {
                    if (a != b && !s.near(a, b) && (all || b == (a + 1) % n)) {
                        s.tie(a, b, 0);
                    }
                }
            }
        }
    }

    // ---- 12 to 18

    int streetOf(int street, int what) {
        return call(() -> {
            Street at = at(street);
            badUnless(within(what, 0, 4));
            int ties = 0;
            int prices = 0;
            for (int a = 0; a < at.n(); a++) {
                for (int b = a + 1; b < at.n(); b++) {
                    ties += at.near(a, b) ? 1 : 0;
                    prices += at.near(a, b) ? at.price[a][b] : 0;
                }
            }
            return new int[] {at.n(), ties, at.more, at.musts(), prices}[what];
        });
    }

    int personOf(int street, int person, int what) {
        return call(() -> {
            Person p = at(street, person);
            badUnless(within(what, 0, 5));
            Street at = at(street);
            return new int[] {p.cost, p.worth, at.nearOnes(person), p.must ? 1 : 0, p.way == null ? NONE : p.way.kind,
                at.prices(person)}[what];
        });
    }

    int alter(int street, int person, int what, int v) {
        return call(() -> {
            Person p = at(street, person);
            badUnless(within(what, 0, 1) && within(v, 0, 99));
            int ahead = what == 0 ? p.cost : p.worth;
            p.cost = what == 0 ? v : p.cost;
            p.worth = what == 1 ? v : p.worth;
            return ahead;
        });
    }

    int tie(int street, int a, int b, int price) {
        return call(() -> {
            at(street, a);
            at(street, b);
            badUnless(a != b && within(price, NONE, 9));
            int ahead = at(street).price[a][b];
            at(street).tie(a, b, price);
            return ahead;
        });
    }

    int must(int street, int person, boolean is) {
        return call(() -> {
            Person p = at(street, person);
            int ahead = p.must ? 1 : 0;
            p.must = is;
            return ahead;
        });
    }

    int take(int street, int person, int s) {
        return call(() -> {
            Person p = at(street, person);
            badUnless(within(s, NONE, 7));
            p.way = s == NONE ? null : wayIn(s);
            return 1;
        });
    }

    int come(int street, int near, int cost, int worth) {
        return call(() -> {
            Street at = of(street, near);
            badUnless(within(cost, 0, 99) && within(worth, 0, 99));
            refuseIf(at.n() == 12, -6);
            Person p = new Person();
            p.cost = cost;
            p.worth = worth;
            int number = at.n();
            at.people.add(p);
            IntStream.range(0, number).filter(other -> in(other, near)).forEach(other -> at.tie(number, other, 0));
            return number;
        });
    }

    // ---- 19 to 30

    int gain(int street, int person, int doers) {
        return gains(() -> {
            at(street, person);
            return of(street, doers).gain(person, doers);
        });
    }

    int total(int street, int doers) {
        return gains(() -> of(street, doers).good(doers));
    }

    int judge(int street, int doers) {
        return call(() -> of(street, doers).judge(doers));
    }

    int count(int street) {
        return call(() -> at(street).rests().length);
    }

    int rest(int street, int i) {
        return call(() -> {
            int[] rests = at(street).rests();
            badUnless(within(i, 0, rests.length - 1));
            return rests[i];
        });
    }

    private static int fewest(Street at) {
        return firstOfGreatest(at.rests(), set -> -Integer.bitCount(set));
    }

    private static int best(Street at) {
        return firstOfGreatest(at.rests(), at::good);
    }

    private static int greatestGood(Street at) {
        return firstOfGreatest(IntStream.range(0, at.sets()).filter(at::mustsDo).toArray(), at::good);
    }

    int fewest(int street) {
        return call(() -> fewest(at(street)));
    }

    int most(int street) {
        return call(() -> firstOfGreatest(at(street).rests(), Integer::bitCount));
    }

    int cheap(int street) {
        return call(() -> firstOfGreatest(at(street).rests(), set -> -at(street).costs(set)));
    }

    int best(int street) {
        return call(() -> best(at(street)));
    }

    int good(int street) {
        return call(() -> greatestGood(at(street)));
    }

    int lost(int street) {
        return call(() -> {
            Street at = at(street);
            int best = best(at);
            return best == NONE ? NONE : at.good(greatestGood(at)) - at.good(best);
        });
    }

    int beside(int street) {
        return call(() -> {
            Street at = at(street);
            int worst = firstOfGreatest(at.rests(), set -> -at.good(set));
            return worst == NONE ? NONE : at.good(greatestGood(at)) - at.good(worst);
        });
    }

    // ---- 31 to 33

    /** Where it ends (NONE: a RING), how many changes, how many rounds the RING has, how many come ahead of it. */
    private static int[] inTurn(Street at, int doers) {
        List<Integer> behind = new ArrayList<>();
        int set = setOf(at.n(), p -> in(p, doers) || at.people.get(p).must);
        int changes = 0;
        while (!behind.contains(set)) {
            behind.add(set);
            int ahead = changes;
            for (int p = 0; p < at.n(); p++) {
                if (at.would(p, set)) {
                    set = at.changed(p, set);
                    changes++;
                }
            }
            if (changes == ahead) {
                return new int[] {set, changes, 0, 0};
            }
        }
        return new int[] {NONE, changes, behind.size() - behind.indexOf(set), behind.indexOf(set)};
    }

    int go(int street, int doers) {
        return call(() -> {
            int end = inTurn(of(street, doers), doers)[0];
            refuseIf(end == NONE, -5);
            return end;
        });
    }

    int turns(int street, int doers) {
        return call(() -> inTurn(of(street, doers), doers)[1]);
    }

    int ring(int street, int doers) {
        return call(() -> inTurn(of(street, doers), doers)[2]);
    }

    /** Not of the face: how many rounds come ahead of the RING. */
    int aheadOfRing(int street, int doers) {
        return inTurn(of(street, doers), doers)[3];
    }

    // ---- 34 to 37

    private static BigInteger power(int base, int n) {
        return BigInteger.valueOf(base).pow(n);
    }

    private static boolean isAtLeast(int w, BigInteger a, int c, BigInteger b) {
        return a.multiply(BigInteger.valueOf(w)).compareTo(b.multiply(BigInteger.valueOf(c))) >= 0;
    }

    private static int lotOf(int cost, int worth, int near) {
        badUnless(within(cost, 1, 99) && within(worth, 1, 99) && within(near, 1, 5));
        return IntStream.rangeClosed(0, 1000)
            .filter(x -> isAtLeast(worth, power(1000 - x, near), cost, power(1000, near))).max().orElse(0);
    }

    int lot(int cost, int worth, int near) {
        return call(() -> lotOf(cost, worth, near));
    }

    int nobody(int cost, int worth, int near) {
        return call(() -> power(1000 - lotOf(cost, worth, near), near + 1).divide(power(1000, near - 1)).intValueExact());
    }

    int know(int near, int n) {
        return call(() -> {
            badUnless(within(near, 0, 5) && within(n, 0, 20));
            int ahead = now.known[near];
            now.known[near] = n;
            return ahead;
        });
    }

    int bar(int cost, int worth) {
        return call(() -> {
            badUnless(within(cost, 1, 99) && within(worth, 1, 99));
            int e = IntStream.range(0, 6).map(d -> d * now.known[d]).sum();
            for (int b = -1; b <= 5; b++) {
                int below = IntStream.rangeClosed(0, b).map(d -> d * now.known[d]).sum();
                int bar = b;
                if (IntStream.range(0, 6).filter(d -> now.known[d] > 0)
                    .allMatch(d -> isAtLeast(worth, power(e - below, d), cost, power(e, d)) == (d <= bar))) {
                    return b + 1;
                }
            }
            return NONE;
        });
    }

    // ---- 38 to 40

    /** Of two, with their tie at a PRICE (or NONE) how many of them GAIN more than without the change. */
    private static int gainMore(Street at, int a, int b, int price, int doers) {
        Street then = at.copy();
        then.tie(a, b, price);
        return (then.gain(a, doers) > at.gain(a, doers) ? 1 : 0) + (then.gain(b, doers) > at.gain(b, doers) ? 1 : 0);
    }

    private interface Pair {
        boolean is(int a, int b);
    }

    private static int firstTwo(int n, Pair wanted) {
        for (int a = 0; a < n; a++) {
            for (int b = a + 1; b < n; b++) {
                if (wanted.is(a, b)) {
                    return 100 * a + b;
                }
            }
        }
        return NONE;
    }

    int cuts(int street, int doers) {
        return call(() -> {
            Street at = of(street, doers);
            return firstTwo(at.n(), (a, b) -> at.near(a, b) && gainMore(at, a, b, NONE, doers) >= 1);
        });
    }

    int adds(int street, int doers, int price) {
        return call(() -> {
            Street at = of(street, doers);
            badUnless(within(price, 0, 9));
            return firstTwo(at.n(), (a, b) -> !at.near(a, b) && gainMore(at, a, b, price, doers) == 2);
        });
    }

    int less(int street) {
        return call(() -> {
            Street at = at(street);
            int fewest = fewest(at);
            refuseIf(fewest == NONE, -5);
            return firstTwo(at.n(), (a, b) -> {
                if (at.near(a, b)) {
                    return false;
                }
                Street then = at.copy();
                then.tie(a, b, 0);
                int set = fewest(then);
                return set != NONE && Integer.bitCount(set) < Integer.bitCount(fewest);
            });
        });
    }

    // ---- 41 to 44

    private static int needOf(Street at, int person, int doers) {
        int need = 0;
        while (!at.people.get(person).must && at.gainsMore(person, doers) > need) {
            need++;
        }
        return need;
    }

    int need(int street, int person, int doers) {
        return call(() -> {
            at(street, person);
            return needOf(of(street, doers), person, doers);
        });
    }

    private int[] needs(int street, int doers) {
        Street at = of(street, doers);
        refuseIf(!at.mustsDo(doers), -5);
        return IntStream.range(0, at.n()).map(p -> needOf(at, p, doers)).toArray();
    }

    int pay(int street, int doers) {
        return call(() -> IntStream.of(needs(street, doers)).sum());
    }

    int few(int street, int doers) {
        return call(() -> IntStream.of(needs(street, doers)).filter(need -> need > 0).count());
    }

    int rota(int street, int s, int n) {
        return call(() -> {
            Street at = at(street);
            shelf(s);
            badUnless(within(n, 1, 40));
            Row row = rowIn(s);
            badUnless(n <= row.v.length);
            for (int day = 0; day < n; day++) {
                badUnless(within(row.v[day], 0, at.sets() - 1));
            }
            for (int p = 0; p < at.n(); p++) {
                int person = p;
                int more = IntStream.range(0, n).map(day -> without(at, person, (int) row.v[day])).sum();
                if (!at.people.get(p).must && more > 0) {
                    return p;
                }
            }
            return NONE;
        });
    }

    /** What one GAINS more if he doesn't on that DAY. */
    private static int without(Street at, int person, int asTold) {
        int doers = setOf(at.n(), p -> in(p, asTold) || at.people.get(p).must);
        return in(person, doers) ? at.gainsMore(person, doers) : 0;
    }

    // ---- 45 to 48

    private int draw(int n) {
        now.seed = BigInteger.valueOf(now.seed).multiply(BigInteger.valueOf(1103515245)).add(BigInteger.valueOf(12345)).intValue();
        return (int) (Integer.toUnsignedLong(now.seed) / 65536) % n;
    }

    int doers(int street, int day) {
        return call(() -> {
            Street at = at(street);
            badUnless(within(day, 0, 999));
            int doers = 0;
            for (int p = 0; p < at.n(); p++) {
                Person one = at.people.get(p);
                boolean does = one.must;
                if (!one.must && one.way != null) {
                    does = one.way.kind == 2 ? draw(1000) < one.way.a : at.does(p, day);
                }
                doers += does ? bit(p) : 0;
            }
            return doers;
        });
    }

    int light(int street, int hour) {
        return call(() -> {
            Street at = at(street);
            badUnless(within(hour, 1, HOURS));
            return at.light(hour);
        });
    }

    int late(int street, int v) {
        return call(() -> {
            Street at = at(street);
            badUnless(within(v, 0, 1000000));
            return IntStream.rangeClosed(1, HOURS).filter(h -> at.light(h) <= v).findFirst().orElse(NONE);
        });
    }

    int seed(int v) {
        int ahead = now.seed;
        now.seed = v;
        return ahead;
    }

    // ---- 49 to 54

    int begin(int street) {
        return call(() -> {
            Street at = at(street);
            now.search = new Search();
            now.search.street = at.copy();
            now.search.number = street;
            return at.sets();
        });
    }

    int step(int n) {
        return call(() -> {
            badUnless(within(n, 1, 999));
            Search s = now.search;
            refuseIf(s == null || s.next == s.street.sets(), -5);
            int found = 0;
            for (int i = 0; i < n && s.next < s.street.sets(); i++, s.next++) {
                if (s.street.judge(s.next) == NONE) {
                    found++;
                    s.last = s.next;
                }
            }
            s.found += found;
            return found;
        });
    }

    int search(int what) {
        return call(() -> {
            badUnless(within(what, 0, 4));
            Search s = now.search;
            refuseIf(s == null, -5);
            return new int[] {s.number, s.next, s.found, s.last, s.next == s.street.sets() ? 1 : 0}[what];
        });
    }

    int image() {
        image = now.copy();
        return 1;
    }

    int back() {
        return call(() -> {
            refuseIf(image == null, -5);
            now = image.copy();
            return 1;
        });
    }

    int status(int what) {
        switch (what) {
            case 0:
                return now.streets.size();
            case 1:
                return tape.length();
            case 2:
                return now.seed;
            case 3:
                return (int) Arrays.stream(shelves).filter(s -> s != null).count();
            default:
                return within(what, 12, 16) ? refused[what - 10] : NONE;
        }
    }
}
