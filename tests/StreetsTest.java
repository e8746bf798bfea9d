/** Promises 12 to 18: what is told of STREETS and PERSONS, and what is changed in them. */
public final class StreetsTest {
    private static final String STAR = "people 4;cost 2;worth 7;more 1;tie 0 1 price 3;tie 0 2;tie 0 3 price 5;must 2";

    public static void main(String[] args) {
        looks();
        alters();
        ties();
        musts();
        takes();
        comes();
        Due.end();
    }

    private static void looks() {
        SomebodyWill x = Due.with(STAR);
        long[] ahead = Due.look(x);
        int[] due = {4, 3, 1, 4, 8};
        for (int what = 0; what < 5; what++) {
            Due.is("streetOf(0, " + what + ")", x.streetOf(0, what), due[what]);
        }
        int[] person = {2, 7, 14, 0, -1, 8};
        for (int what = 0; what < 6; what++) {
            Due.is("personOf(0, 0, " + what + ")", x.personOf(0, 0, what), person[what]);
        }
        int[][] bad = {{-1, 0}, {1, 0}, {4, 0}, {0, -1}, {0, 5}};
        for (int[] b : bad) {
            Due.refuses(x, -2, "streetOf(" + b[0] + ", " + b[1] + ")", () -> x.streetOf(b[0], b[1]));
        }
        int[][] worse = {{-1, 0, 0}, {1, 0, 0}, {0, -1, 0}, {0, 4, 0}, {0, 0, -1}, {0, 0, 6}, {0, 12, 0}};
        for (int[] b : worse) {
            Due.refuses(x, -2, "personOf(" + b[0] + ", " + b[1] + ", " + b[2] + ")", () -> x.personOf(b[0], b[1], b[2]));
        }
        Due.same("behind looks", ahead, Due.look(x));
    }

    private static void alters() {
        SomebodyWill x = Due.with(STAR);
        Due.is("alter cost", x.alter(0, 1, 0, 99), 2);
        Due.is("alter cost again", x.alter(0, 1, 0, 0), 99);
        Due.is("alter worth", x.alter(0, 1, 1, 50), 7);
        Due.is("cost", x.personOf(0, 1, 0), 0);
        Due.is("worth", x.personOf(0, 1, 1), 50);
        Due.is("another's worth", x.personOf(0, 0, 1), 7);
        long[] ahead = Due.look(x);
        int[][] bad = {{-1, 0, 0, 1}, {1, 0, 0, 1}, {0, -1, 0, 1}, {0, 4, 0, 1}, {0, 0, -1, 1}, {0, 0, 2, 1},
            {0, 0, 0, -1}, {0, 0, 0, 100}, {0, 0, 1, -1}, {0, 0, 1, 100}};
        for (int[] b : bad) {
            Due.refuses(x, -2, "alter(" + b[0] + ", " + b[1] + ", " + b[2] + ", " + b[3] + ")",
                () -> x.alter(b[0], b[1], b[2], b[3]));
        }
        Due.same("behind refused alters", ahead, Due.look(x));
    }

    private static void ties() {
        SomebodyWill x = Due.with(STAR);
        Due.is("a new tie", x.tie(0, 3, 1, 9), -1);
        Due.is("near 1", x.personOf(0, 1, 2), 9);
        Due.is("near 3", x.personOf(0, 3, 2), 3);
        Due.is("its price", x.tie(0, 1, 3, 0), 9);
        Due.is("another price", x.tie(0, 1, 3, 4), 0);
        Due.is("prices of 3", x.personOf(0, 3, 5), 9);
        Due.is("prices of 1", x.personOf(0, 1, 5), 7);
        Due.is("not any more", x.tie(0, 3, 1, -1), 4);
        Due.is("not at all", x.tie(0, 3, 1, -1), -1);
        Due.is("ties", x.streetOf(0, 1), 3);
        Due.is("prices", x.streetOf(0, 4), 8);
        Due.is("near 1", x.personOf(0, 1, 2), 1);
        long[] ahead = Due.look(x);
        int[][] bad = {{-1, 0, 1, 1}, {1, 0, 1, 1}, {0, 1, 1, 1}, {0, 1, 1, -1}, {0, -1, 1, 1}, {0, 4, 1, 1},
            {0, 1, -1, 1}, {0, 1, 4, 1}, {0, 0, 1, -2}, {0, 0, 1, 10}};
        for (int[] b : bad) {
            Due.refuses(x, -2, "tie(" + b[0] + ", " + b[1] + ", " + b[2] + ", " + b[3] + ")",
                () -> x.tie(b[0], b[1], b[2], b[3]));
        }
        Due.same("behind refused ties", ahead, Due.look(x));
    }

    private static void musts() {
        SomebodyWill x = Due.with(STAR);
        Due.is("must(0, 0, true)", x.must(0, 0, true), 0);
        Due.is("must(0, 0, true) again", x.must(0, 0, true), 1);
        Due.is("all that must", x.streetOf(0, 3), 5);
        Due.is("must(0, 2, false)", x.must(0, 2, false), 1);
        Due.is("must(0, 2, false) again", x.must(0, 2, false), 0);
        Due.is("all that must", x.streetOf(0, 3), 1);
        Due.is("personOf(0, 0, 3)", x.personOf(0, 0, 3), 1);
        Due.is("personOf(0, 2, 3)", x.personOf(0, 2, 3), 0);
        long[] ahead = Due.look(x);
        int[][] bad = {{-1, 0}, {1, 0}, {0, -1}, {0, 4}, {0, 31}, {0, 32}};
        for (int[] b : bad) {
            Due.refuses(x, -2, "must(" + b[0] + ", " + b[1] + ", true)", () -> x.must(b[0], b[1], true));
        }
        Due.same("behind refused musts", ahead, Due.look(x));
    }

    private static void takes() {
        SomebodyWill x = Due.with(STAR);
        x.row(0, 0, 3);
        x.way(1, 4, 301);
        Due.is("take", x.take(0, 1, 1), 1);
        Due.is("its kind", x.personOf(0, 1, 4), 4);
        x.way(1, 2, 700);
        Due.is("he has the way that was there", x.personOf(0, 1, 4), 4);
        Due.is("he does on day 1 (2 must)", x.doers(0, 1), 6);
        Due.is("he doesn't on day 2", x.doers(0, 2), 4);
        Due.is("take the other", x.take(0, 3, 1), 1);
        Due.is("its kind", x.personOf(0, 3, 4), 2);
        Due.is("take none", x.take(0, 1, -1), 1);
        Due.is("no kind", x.personOf(0, 1, 4), -1);
        Due.is("take none again", x.take(0, 1, -1), 1);
        long[] ahead = Due.look(x);
        int[][] bad = {{-1, 0, 1}, {1, 0, 1}, {0, -1, 1}, {0, 4, 1}, {0, 0, -2}, {0, 0, 8}, {0, 4, 0}, {0, 4, 5}, {0, 4, -1}};
        for (int[] b : bad) {
            Due.refuses(x, -2, "take(" + b[0] + ", " + b[1] + ", " + b[2] + ")", () -> x.take(b[0], b[1], b[2]));
        }
        Due.refuses(x, -3, "take a row", () -> x.take(0, 3, 0));
        Due.refuses(x, -4, "take nothing", () -> x.take(0, 3, 2));
        Due.same("behind refused takes", ahead, Due.look(x));
    }

    private static void comes() {
        SomebodyWill x = Due.with(STAR);
        Due.is("come(0, 10, 99, 0)", x.come(0, 10, 99, 0), 4);
        int[] due = {99, 0, 10, 0, -1, 0};
        for (int what = 0; what < 6; what++) {
            Due.is("personOf(0, 4, " + what + ")", x.personOf(0, 4, what), due[what]);
        }
        Due.is("near 1", x.personOf(0, 1, 2), 17);
        Due.is("near 3", x.personOf(0, 3, 2), 17);
        Due.is("near 0", x.personOf(0, 0, 2), 14);
        Due.is("prices", x.streetOf(0, 4), 8);
        Due.is("ties", x.streetOf(0, 1), 5);
        long[] ahead = Due.look(x);
        int[][] bad = {{-1, 0, 1, 1}, {1, 0, 1, 1}, {0, -1, 1, 1}, {0, 32, 1, 1}, {0, 0, -1, 1}, {0, 0, 100, 1},
            {0, 0, 1, -1}, {0, 0, 1, 100}};
        for (int[] b : bad) {
            Due.refuses(x, -2, "come(" + b[0] + ", " + b[1] + ", " + b[2] + ", " + b[3] + ")",
                () -> x.come(b[0], b[1], b[2], b[3]));
        }
        Due.same("behind refused comes", ahead, Due.look(x));
        for (int p = 5; p < 12; p++) {
            Due.is("come", x.come(0, (1 << p) - 1, 0, 99), p);
        }
        Due.is("near the last", x.personOf(0, 11, 2), 2047);
        Due.refuses(x, -6, "a thirteenth", () -> x.come(0, 4095, 1, 1));
        Due.refuses(x, -2, "a thirteenth, BAD", () -> x.come(0, 4096, 1, 1));
        Due.refuses(x, -2, "a thirteenth, BAD cost", () -> x.come(0, 0, 100, 1));
        Due.is("persons", x.streetOf(0, 0), 12);
        comesBehindAnother();
    }

    /** Nothing of one that came, and was gone again by back(), stays. */
    private static void comesBehindAnother() {
        SomebodyWill x = Due.with("people 2;all");
        x.image();
        x.come(0, 3, 5, 6);
        x.tie(0, 2, 0, 7);
        x.must(0, 2, true);
        x.way(0, 1, 1);
        x.take(0, 2, 0);
        x.back();
        Due.is("he comes", x.come(0, 0, 1, 2), 2);
        int[] due = {1, 2, 0, 0, -1, 0};
        for (int what = 0; what < 6; what++) {
            Due.is("personOf(0, 2, " + what + ")", x.personOf(0, 2, what), due[what]);
        }
        Due.is("prices of 0", x.personOf(0, 0, 5), 0);
    }
}
