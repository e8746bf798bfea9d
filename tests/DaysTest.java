/** Promises 45 to 48: DOERS by WAYS, LIGHT, and the SEED. */
public final class DaysTest {
    public static void main(String[] args) {
        seeds();
        doersOfKinds();
        draws();
        doersRefused();
        lights();
        lates();
        lightsRefused();
        Due.end();
    }

    private static void seeds() {
        SomebodyWill x = new SomebodyWill();
        Due.is("seed(5)", x.seed(5), 1);
        Due.is("status(2)", x.status(2), 5);
        Due.is("seed(min)", x.seed(Integer.MIN_VALUE), 5);
        Due.is("seed(-1)", x.seed(-1), Integer.MIN_VALUE);
        Due.is("status(2)", x.status(2), -1);
    }

    private static void doersOfKinds() {
        SomebodyWill x = Due.with("people 5;cost 3;worth 9;tie 0 1;tie 0 2;tie 1 2;tie 0 3");
        x.way(0, 1, 1);
        x.way(1, 3, 2);
        x.way(2, 4, 703);
        x.way(3, 1, 0);
        x.row(4, 0, 4);
        x.set(4, 3, 1);
        x.way(5, 5, 4);
        x.take(0, 4, 0);
        Due.is("one surely, the others without ways", x.doers(0, 0), 16);
        x.take(0, 4, 3);
        Due.is("surely not", x.doers(0, 0), 0);
        for (int p = 0; p < 4; p++) {
            x.take(0, p, 1);
        }
        Due.is("those with two near at most", x.doers(0, 0), 14);
        x.take(0, 0, 5);
        x.take(0, 1, 5);
        x.take(0, 2, 2);
        x.take(0, 3, 5);
        Due.is("3 near does: 0 doesn't, 1 and 3 do", x.doers(0, 0), 10);
        Due.is("and 2 on day 3", x.doers(0, 3), 14);
        Due.is("and 2 on day 10", x.doers(0, 10), 14);
        Due.is("and 2 not on day 999", x.doers(0, 999), 10);
        Due.is("and 2 on day 996", x.doers(0, 996), 10);
        Due.is("and 2 on day 990", x.doers(0, 990), 14);
        x.alter(0, 1, 0, 8);
        Due.is("1 gains 1 more by it", x.doers(0, 0), 10);
        x.alter(0, 1, 0, 9);
        Due.is("1 doesn't gain more any more", x.doers(0, 0), 8);
        x.must(0, 1, true);
        Due.is("1 must", x.doers(0, 0), 10);
        x.tie(0, 0, 3, -1);
        Due.is("0 does as 3 isn't near", x.doers(0, 0), 11);
        Due.is("nothing was drawn", x.status(2), 1);
    }

    private static int next(int seed) {
        return seed * 1103515245 + 12345;
    }

    private static void draws() {
        SomebodyWill x = Due.with("people 6;must 3");
        int[] chances = {0, 400, 600, 1000, 1000, 500};
        for (int p = 0; p < 6; p++) {
            x.way(0, 2, chances[p]);
            x.take(0, p, 0);
        }
        int seed = 1;
        int met = 0;
        for (int day = 0; day < 60; day++) {
            int due = 0;
            for (int p = 0; p < 6; p++) {
                if (p == 3) {
                    due |= 8;
                    continue;
                }
                seed = next(seed);
                due |= (seed >>> 16) % 1000 < chances[p] ? 1 << p : 0;
            }
            met |= 1 << due % 8 / 2;
            Due.is("doers by lots on day " + day, x.doers(0, day), due);
            Due.is("seed behind day " + day, x.status(2), seed);
        }
        Due.is("1 and 2 did and didn't", met, 15);
        x.seed(-77);
        seed = next(-77);
        for (int p = 1; p < 3; p++) {
            seed = next(seed);
        }
        int due = (next(next(-77)) >>> 16) % 1000 < 400 ? 2 : 0;
        Due.is("told seed", x.doers(0, 5) & 2, due);
        chanceAsTheDraw();
    }

    /** A DRAW that is just the chance isn't below it: the first one by SEED 1 is 838. */
    private static void chanceAsTheDraw() {
        SomebodyWill x = Due.with("people 1");
        x.way(0, 2, 838);
        x.take(0, 0, 0);
        Due.is("as the chance", x.doers(0, 0), 0);
        x.way(0, 2, 839);
        x.take(0, 0, 0);
        x.seed(1);
        Due.is("below the chance", x.doers(0, 0), 1);
    }

    private static void doersRefused() {
        SomebodyWill x = Due.with("people 2");
        x.way(0, 2, 500);
        x.take(0, 0, 0);
        int[][] bad = {{-1, 0}, {1, 0}, {0, -1}, {0, 1000}};
        for (int[] b : bad) {
            Due.refuses(x, -2, "doers(" + b[0] + ", " + b[1] + ")", () -> x.doers(b[0], b[1]));
        }
        Due.is("nothing was drawn", x.status(2), 1);
    }

    private static void lights() {
        SomebodyWill x = Due.with("people 3;cost 3;worth 9;tie 0 1");
        Due.is("without ways", x.light(0, 99), 1000000);
        x.way(0, 2, 333);
        x.take(0, 0, 0);
        int[] due = {667000, 444889, 296740, 197925};
        for (int h = 1; h <= 4; h++) {
            Due.is("light(0, " + h + ")", x.light(0, h), due[h - 1]);
        }
        x.way(1, 2, 5);
        x.take(0, 1, 1);
        // 667000 * 995 is 663665 thousands; 442664.555 cut, 440451.., each PERSON cut in order
        Due.is("two lots, hour 1", x.light(0, 1), 663665);
        Due.is("two lots, hour 2", x.light(0, 2), 442664 * 995 / 1000);
        x.way(2, 4, 503);
        x.take(0, 2, 2);
        Due.is("ahead of the turn", x.light(0, 2), 440450);
        Due.is("on the turn's hour", x.light(0, 3), 0);
        Due.is("behind it", x.light(0, 4), 0);
        x.way(3, 3, 0);
        x.take(0, 2, 3);
        Due.is("none near: he does", x.light(0, 1), 0);
        x.take(0, 2, -1);
        x.take(0, 1, 3);
        Due.is("one near: he doesn't", x.light(0, 1), 667000);
        x.row(4, 0, 1);
        x.way(5, 5, 4);
        x.take(0, 1, 5);
        Due.is("he answers and does", x.light(0, 1), 0);
        x.set(4, 0, 1);
        x.way(5, 5, 4);
        x.take(0, 1, 5);
        Due.is("he answers and doesn't", x.light(0, 1), 667000);
        x.must(0, 0, true);
        Due.is("one that must", x.light(0, 1), 0);
        Due.is("nothing was drawn", x.status(2), 1);
    }

    private static void lates() {
        SomebodyWill x = Due.with("people 2");
        Due.is("always as light", x.late(0, 1000000), 1);
        Due.is("never below", x.late(0, 999999), -1);
        x.way(0, 2, 500);
        x.take(0, 0, 0);
        Due.is("late(0, 500000)", x.late(0, 500000), 1);
        Due.is("late(0, 499999)", x.late(0, 499999), 2);
        Due.is("late(0, 125000)", x.late(0, 125000), 3);
        Due.is("late(0, 0)", x.late(0, 0), 20);
        Due.is("light then", x.light(0, 20), 0);
        Due.is("light ahead", x.light(0, 19) > 0 ? 1 : 0, 1);
        x.way(0, 2, 1);
        x.take(0, 0, 0);
        Due.is("in the last hour", x.late(0, x.light(0, 99)), 99);
        Due.is("behind it", x.late(0, x.light(0, 99) - 1), -1);
        x.way(0, 4, 907);
        x.take(0, 1, 0);
        Due.is("the turn's hour", x.late(0, 0), 7);
        x.way(0, 4, 900);
        x.take(0, 1, 0);
        Due.is("the first hour that is none by 9", x.late(0, 0), 9);
    }

    private static void lightsRefused() {
        SomebodyWill x = Due.with("people 2");
        int[][] bad = {{-1, 1}, {1, 1}, {0, 0}, {0, 100}, {0, -1}};
        for (int[] b : bad) {
            Due.refuses(x, -2, "light(" + b[0] + ", " + b[1] + ")", () -> x.light(b[0], b[1]));
        }
        int[][] worse = {{-1, 1}, {1, 1}, {0, -1}, {0, 1000001}};
        for (int[] b : worse) {
            Due.refuses(x, -2, "late(" + b[0] + ", " + b[1] + ")", () -> x.late(b[0], b[1]));
        }
    }
}
