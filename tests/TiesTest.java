/** Promises 38 to 40: ties that one would cut, two would add, or that make fewer do. */
public final class TiesTest {
    private static final String CHASE = "people 2;more 5;one 0 cost 7 worth 9;one 1 cost 3 worth 2;all";

    public static void main(String[] args) {
        cut();
        added();
        lessened();
        refused();
        Due.end();
    }

    private static void cut() {
        SomebodyWill x = Due.with("people 3;cost 3;worth 9;tie 0 1 price 2;tie 1 2",
            "people 3;worth 2;tie 1 2 price 2;tie 0 2 price 3", "people 3;worth 9;more 3;all");
        Due.is("both gain by a cut", x.cuts(0, 3), 1);
        Due.is("one alone does", x.cuts(0, 2), 1);
        Due.is("a tie without a price is kept", x.cuts(0, 1), 1);
        x.tie(0, 0, 1, 0);
        Due.is("none", x.cuts(0, 2), -1);
        Due.is("none, all do", x.cuts(0, 7), -1);
        Due.is("none, nobody does", x.cuts(0, 0), -1);
        Due.is("2 gains by a cut of 0 and 2", x.cuts(1, 4), 2);
        x.tie(1, 0, 2, 0);
        Due.is("0 as much, the next pair", x.cuts(1, 4), 102);
        x.tie(1, 1, 2, 0);
        Due.is("none then", x.cuts(1, 4), -1);
        for (int a = 0; a < 3; a++) {
            x.tie(2, a, (a + 1) % 3, 3);
        }
        Due.is("MORE is as the price: none", x.cuts(2, 7), -1);
        Due.is("a tie to one that doesn't is for nothing", x.cuts(2, 3), 2);
        x.tie(2, 0, 1, 0);
        x.tie(2, 1, 2, 4);
        Due.is("above MORE", x.cuts(2, 7), 102);
        x.tie(2, 1, 2, 3);
        x.tie(2, 0, 2, 4);
        Due.is("by the other", x.cuts(2, 7), 2);
        Due.is("prices are as they were", x.streetOf(2, 4), 7);
        Due.is("ties are as they were", x.streetOf(2, 1), 3);
    }

    private static void added() {
        SomebodyWill x = Due.with("people 3;cost 3;worth 9;more 4", "people 4;worth 9;cost 1;tie 0 1;tie 0 2;tie 0 3");
        Due.is("adds(0, 3, 3)", x.adds(0, 3, 3), 1);
        Due.is("adds(0, 3, 4)", x.adds(0, 3, 4), -1);
        Due.is("adds(0, 3, 0)", x.adds(0, 3, 0), 1);
        Due.is("adds(0, 5, 3)", x.adds(0, 5, 3), 2);
        Due.is("adds(0, 6, 3)", x.adds(0, 6, 3), 102);
        Due.is("one alone gains", x.adds(0, 1, 0), -1);
        Due.is("nobody does", x.adds(0, 0, 0), -1);
        Due.is("no MORE: none", x.adds(1, 14, 0), -1);
        Due.is("ties are as they were", x.streetOf(0, 1), 0);
        SomebodyWill y = Due.with("people 3;cost 3;worth 9;more 4;all");
        Due.is("all are near", y.adds(0, 7, 0), -1);
        y.tie(0, 1, 2, -1);
        Due.is("but two", y.adds(0, 7, 3), 102);
        Due.is("just as much", y.adds(0, 7, 4), -1);
        Due.is("at 9", y.adds(0, 7, 9), -1);
    }

    private static void lessened() {
        SomebodyWill x = Due.with("people 4;cost 3;worth 5;tie 0 1;tie 1 2;tie 2 3", "people 4;cost 3;worth 5;tie 0 1;tie 0 2",
            "people 4;cost 3;worth 5;tie 1 0 price 4;tie 1 3", "people 5;cost 3;worth 9;ring");
        Due.is("less(0)", x.less(0), 2);
        Due.is("less(1)", x.less(1), 3);
        Due.is("less(2)", x.less(2), 102);
        Due.is("less(3)", x.less(3), -1);
        Due.is("prices are as they were", x.streetOf(2, 4), 4);
        Due.is("ties are as they were", x.streetOf(2, 1), 2);
        SomebodyWill y = Due.with("people 3;cost 3;worth 9;all", "people 2;cost 5;worth 4", "people 2;cost 4;worth 5;must 0;must 1", CHASE);
        Due.is("all are near", y.less(0), -1);
        Due.is("nobody does", y.less(1), -1);
        Due.is("all must", y.less(2), -1);
        Due.refuses(y, -5, "less without a rest", () -> y.less(3));
        SomebodyWill z = Due.with("people 2;more 5;one 0 cost 7 worth 9;one 1 cost 3 worth 2");
        Due.is("the rest that is now", z.fewest(0), 1);
        Due.is("by the tie there is no rest: that isn't fewer", z.less(0), -1);
    }

    private static void refused() {
        SomebodyWill x = Due.with("people 3;cost 3;worth 9;tie 0 1 price 2;tie 1 2");
        long[] ahead = Due.look(x);
        int[][] bad = {{-1, 0, 0}, {1, 0, 0}, {0, -1, 0}, {0, 8, 0}};
        for (int[] b : bad) {
            Due.refuses(x, -2, "cuts(" + b[0] + ", " + b[1] + ")", () -> x.cuts(b[0], b[1]));
            Due.refuses(x, -2, "adds(" + b[0] + ", " + b[1] + ", 0)", () -> x.adds(b[0], b[1], 0));
        }
        Due.refuses(x, -2, "adds at -1", () -> x.adds(0, 0, -1));
        Due.refuses(x, -2, "adds at 10", () -> x.adds(0, 0, 10));
        Due.refuses(x, -2, "less(-1)", () -> x.less(-1));
        Due.refuses(x, -2, "less(1)", () -> x.less(1));
        Due.same("behind what was refused", ahead, Due.look(x));
    }
}
