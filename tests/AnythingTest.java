/** Whatever is asked in whatever state: nothing is thrown, all ends, and the same calls answer the same. */
public final class AnythingTest {
    private static final int[] ODD = {
        Integer.MIN_VALUE, Integer.MIN_VALUE + 1, -1000001, -100, -12, -2, -1, 0, 1, 2, 3, 4, 5, 6, 7, 8, 9, 10, 11, 12, 13,
        31, 32, 33, 39, 40, 41, 63, 64, 98, 99, 100, 101, 160, 255, 301, 500, 999, 1000, 1001, 4095, 4096, 65535, 1000000,
        1000001, Integer.MAX_VALUE - 1, Integer.MAX_VALUE
    };
    private static final String[] TOLD = {
        "people 12;cost 3;worth 9;ring", "people 12;more 5;cost 4;worth 3;all;must 3;tie 0 1 price 9", "people 3;ring",
        "people 5;more 9;cost 8;worth 9;tie 0 1;one 2 cost 0 worth 99;must 4", "people 1;all", "people 2;ring", "people;", "tie"
    };

    /** What calls behind the 512th answer is free; one look may feed a text of some fifty bytes. */
    private static final int CALLS = 512 - 24;

    private int seed;
    private int calls;

    public static void main(String[] args) {
        for (int run = 0; run < 300; run++) {
            long once = new AnythingTest().run(run);
            long twice = new AnythingTest().run(run);
            Due.is("the same calls, run " + run, twice, once);
        }
        Due.end();
    }

    private int below(int k) {
        seed = seed * 1103515245 + 12345;
        return (seed >>> 16) % k;
    }

    /** Mostly a number that may be, so that the calls go on behind their first tests. */
    private int number(int k) {
        return below(8) == 0 ? ODD[below(ODD.length)] : below(k);
    }

    private long run(int from) {
        seed = from * 7919 + 1;
        SomebodyWill x = new SomebodyWill();
        long sum = 0;
        while (calls < CALLS) {
            int call = below(60);
            calls++;
            try {
                sum = 31 * sum + (call < 20 ? shelves(x, call) : call < 40 ? streets(x, call) : others(x, call));
            } catch (RuntimeException thrown) {
                Due.is("run " + from + ", call " + calls + " of kind " + call + " threw " + thrown, 1, 0);
            }
        }
        return sum;
    }

    private long read(SomebodyWill x) {
        if (below(3) == 0) {
            return x.street();
        }
        String told = TOLD[below(TOLD.length)];
        calls += told.length() / 4 + told.length() % 4;
        return Due.read(x, told);
    }

    private long shelves(SomebodyWill x, int call) {
        switch (call) {
            case 0: return x.row(number(8), number(5), number(41));
            case 1: return x.set(number(8), number(40), ODD[below(ODD.length)] * 123456789L);
            case 2: return x.set(number(8), number(20), below(4096));
            case 3: return x.copy(number(8), number(8), number(20), number(20), number(20));
            case 4: return x.element(number(8), number(40));
            case 5: return x.holds(number(8));
            case 6: return x.way(number(8), 1 + number(5), number(8));
            case 7: return x.way(number(8), 4, 100 * number(10) + number(9));
            case 8: return x.way(number(8), 2, number(1001));
            case 9: return x.says(number(8), number(6));
            case 10: return x.feed(number(256), number(5));
            case 11: return below(4) == 0 ? x.wipe() : 0;
            case 12: return x.lot(number(100), number(100), number(6));
            case 13: return x.nobody(number(100), number(100), number(6));
            case 14: return x.know(number(6), number(21));
            case 15: return x.bar(number(100), number(100));
            case 16: return x.seed(ODD[below(ODD.length)]);
            case 17: return x.status(number(17));
            default: return read(x);
        }
    }

    private long streets(SomebodyWill x, int call) {
        int street = number(4);
        switch (call) {
            case 20: return x.streetOf(street, number(5));
            case 21: return x.personOf(street, number(12), number(6));
            case 22: return x.alter(street, number(12), number(2), number(100));
            case 23: return x.tie(street, number(12), number(12), number(11) - 1);
            case 24: return x.must(street, number(12), below(3) == 0);
            case 25: return x.take(street, number(12), number(9) - 1);
            case 26: return x.come(street, number(4096), number(100), number(100));
            case 27: return x.gain(street, number(12), number(4096));
            case 28: return x.total(street, number(4096));
            case 29: return x.judge(street, number(4096));
            case 30: return x.count(street);
            case 31: return x.rest(street, number(5));
            case 32: return x.fewest(street);
            case 33: return x.most(street);
            case 34: return x.cheap(street);
            case 35: return x.best(street);
            case 36: return x.good(street);
            case 37: return x.lost(street);
            case 38: return x.beside(street);
            default: return x.go(street, number(4096));
        }
    }

    private long others(SomebodyWill x, int call) {
        int street = number(4);
        switch (call) {
            case 40: return x.turns(street, number(4096));
            case 41: return x.ring(street, number(4096));
            case 42: return x.cuts(street, number(4096));
            case 43: return x.adds(street, number(4096), number(10));
            case 44: return below(4) == 0 ? x.less(street) : 0;
            case 45: return x.need(street, number(12), number(4096));
            case 46: return x.pay(street, number(4096));
            case 47: return x.few(street, number(4096));
            case 48: return x.rota(street, number(8), 1 + number(40));
            case 49: return x.doers(street, number(1000));
            case 50: return x.light(street, 1 + number(99));
            case 51: return x.late(street, number(1000001));
            case 52: return x.begin(street);
            case 53: return x.step(1 + number(999));
            case 54: return x.search(number(5));
            case 55: return below(3) == 0 ? x.image() : 0;
            case 56: return below(3) == 0 ? x.back() : 0;
            default: return read(x);
        }
    }
}
