/** Promises 19 to 30: GAINS, GOOD and RESTS. */
public final class RestsTest {
    private static final String STAR = "people 4;cost 2;worth 7;tie 0 1;tie 0 2;tie 0 3";
    private static final String PATH = "people 4;cost 3;worth 5;more 2;tie 0 1;tie 1 2;tie 2 3";
    /** 0 does if 1 doesn't, 1 if 0 does: no REST. */
    private static final String CHASE = "people 2;more 5;one 0 cost 7 worth 9;one 1 cost 3 worth 2;all";

    public static void main(String[] args) {
        gains();
        rests();
        chosen();
        below();
        noRest();
        Due.end();
    }

    private static void gains() {
        SomebodyWill x = Due.with("people 4;cost 3;worth 9;more 2;tie 0 1 price 4;tie 0 2 price 1;must 3");
        Due.is("nobody does", x.gain(0, 0, 0), -5);
        Due.is("he alone does", x.gain(0, 0, 1), 1);
        Due.is("one near does", x.gain(0, 0, 2), 4);
        Due.is("two near do", x.gain(0, 0, 6), 6);
        Due.is("all three do", x.gain(0, 0, 7), 5);
        Due.is("one who isn't near does", x.gain(0, 0, 8), -5);
        Due.is("of one near", x.gain(0, 1, 1), 5);
        Due.is("of one alone", x.gain(0, 3, 8), 6);
        Due.is("of one alone that doesn't", x.gain(0, 3, 7), 0);
        Due.is("total of none", x.total(0, 0), -10);
        Due.is("total(0, 1)", x.total(0, 1), 1 + 5 + 8);
        Due.is("total(0, 7)", x.total(0, 7), 5 + 4 + 7);
        Due.is("total(0, 15)", x.total(0, 15), 5 + 4 + 7 + 6);
    }

    private static void rests() {
        SomebodyWill x = Due.with(STAR, "people 3;cost 3;worth 3;all", "people 1");
        Due.is("judge(0, 0)", x.judge(0, 0), 0);
        Due.is("judge(0, 1)", x.judge(0, 1), -1);
        Due.is("judge(0, 14)", x.judge(0, 14), -1);
        Due.is("judge(0, 3)", x.judge(0, 3), 0);
        Due.is("judge(0, 2)", x.judge(0, 2), 2);
        Due.is("judge(0, 6)", x.judge(0, 6), 3);
        Due.is("count(0)", x.count(0), 2);
        Due.is("rest(0, 0)", x.rest(0, 0), 1);
        Due.is("rest(0, 1)", x.rest(0, 1), 14);
        Due.is("cost as worth: none would", x.judge(1, 0), -1);
        Due.is("cost as worth: he wouldn't stop", x.judge(1, 2), -1);
        Due.is("cost as worth: two", x.judge(1, 5), 0);
        Due.is("count(1)", x.count(1), 4);
        Due.is("rest(1, 3)", x.rest(1, 3), 4);
        Due.is("all is nought: count(2)", x.count(2), 2);
        x.must(0, 1, true);
        Due.is("one that must doesn't", x.judge(0, 1), 1);
        Due.is("one that must doesn't, none would", x.judge(0, 12), 1);
        Due.is("with one that must, another stops", x.judge(0, 3), 0);
        Due.is("one that must does though near ones do", x.judge(0, 14), -1);
        Due.is("count with one that must", x.count(0), 1);
        x.must(0, 0, true);
        Due.is("two that must are near", x.judge(0, 3), -1);
        Due.is("rest(0, 0)", x.rest(0, 0), 3);
        x.alter(0, 2, 0, 0);
        Due.is("one who may or may not", x.count(0), 2);
        Due.is("rest(0, 1)", x.rest(0, 1), 7);
    }

    private static void chosen() {
        SomebodyWill x = Due.with(STAR, PATH, "people 4;cost 4;worth 4;tie 0 1;tie 2 3;one 0 cost 2 worth 9;one 1 cost 3 worth 9");
        Due.is("fewest(0)", x.fewest(0), 1);
        Due.is("most(0)", x.most(0), 14);
        Due.is("cheap(0)", x.cheap(0), 1);
        Due.is("best(0)", x.best(0), 1);
        Due.is("good(0)", x.good(0), 1);
        x.alter(0, 0, 0, 6);
        for (int p = 1; p < 4; p++) {
            x.alter(0, p, 0, 1);
        }
        Due.is("fewest, dear", x.fewest(0), 1);
        Due.is("cheap, many", x.cheap(0), 14);
        Due.is("best, many", x.best(0), 14);
        Due.is("count(1)", x.count(1), 3);
        Due.is("fewest(1), of several the least", x.fewest(1), 5);
        Due.is("most(1), of several the least", x.most(1), 5);
        Due.is("cheap(1), of several the least", x.cheap(1), 5);
        Due.is("best(1), of several the least", x.best(1), 5);
        Due.is("good(1) is no rest", x.good(1), 15);
        Due.is("count(2)", x.count(2), 6);
        Due.is("fewest(2)", x.fewest(2), 1);
        Due.is("most(2)", x.most(2), 5);
        Due.is("cheap(2)", x.cheap(2), 1);
        Due.is("best(2)", x.best(2), 5);
        x.must(1, 3, true);
        Due.is("good(1) has all that must", x.good(1), 15);
        Due.is("fewest(1) with a must", x.fewest(1), 9);
        x.must(0, 3, true);
        Due.is("good(0) has all that must", x.good(0), 14);
        x.must(0, 0, true);
        Due.is("good(0) with two musts", x.good(0), 9);
    }

    private static void below() {
        SomebodyWill x = Due.with(PATH, STAR, "people 2;cost 5;worth 4;all", "people 3;cost 3;worth 5;tie 0 1 price 9");
        Due.is("total of the good", x.total(0, 15), 20);
        Due.is("lost(0)", x.lost(0), 4);
        Due.is("beside(0)", x.beside(0), 6);
        Due.is("lost(1)", x.lost(1), 0);
        Due.is("beside(1)", x.beside(1), 4);
        Due.is("good(2)", x.good(2), 1);
        Due.is("lost(2)", x.lost(2), 3);
        Due.is("beside(2)", x.beside(2), 3);
        Due.is("good below nought", x.total(3, x.good(3)), -18 + 15 - 6);
        Due.is("lost(3)", x.lost(3), 0);
        Due.is("beside(3)", x.beside(3), 0);
    }

    private static void noRest() {
        SomebodyWill x = Due.with(CHASE);
        Due.is("count", x.count(0), 0);
        Due.is("fewest", x.fewest(0), -1);
        Due.is("most", x.most(0), -1);
        Due.is("cheap", x.cheap(0), -1);
        Due.is("best", x.best(0), -1);
        Due.is("lost", x.lost(0), -1);
        Due.is("beside", x.beside(0), -1);
        Due.is("good", x.good(0), 3);
        Due.refuses(x, -2, "rest(0, 0)", () -> x.rest(0, 0));
        for (int set = 0; set < 4; set++) {
            Due.is("judge(0, " + set + ")", x.judge(0, set), new int[] {0, 1, 1, 0}[set]);
        }
    }
}
