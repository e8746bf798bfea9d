/** Promises 6 to 8: WAYS. */
public final class WaysTest {
    public static void main(String[] args) {
        kinds();
        answers();
        waysRefused();
        saysRefused();
        Due.end();
    }

    private static void made(SomebodyWill x, int s, int kind, int a) {
        Due.is("way(" + s + ", " + kind + ", " + a + ")", x.way(s, kind, a), 1);
        Due.is("holds(" + s + ")", x.holds(s), 10 + kind);
        Due.is("says(" + s + ", 0)", x.says(s, 0), 0);
    }

    private static void told(SomebodyWill x, int s, int kind, int due) {
        Due.is("says(" + s + ", " + kind + ")", x.says(s, kind), due);
    }

    private static void kinds() {
        SomebodyWill x = new SomebodyWill();
        made(x, 0, 1, 1);
        told(x, 0, 1, 1);
        made(x, 0, 1, 0);
        told(x, 0, 1, 0);
        made(x, 1, 2, 501);
        told(x, 1, 2, 501);
        told(x, 1, 1, 1);
        made(x, 1, 2, 500);
        told(x, 1, 1, 0);
        made(x, 1, 2, 1000);
        told(x, 1, 2, 1000);
        made(x, 1, 2, 0);
        told(x, 1, 2, 0);
        made(x, 2, 3, 11);
        told(x, 2, 3, 11);
        made(x, 2, 3, 0);
        told(x, 2, 3, 0);
        made(x, 3, 4, 705);
        told(x, 3, 4, 705);
        told(x, 3, 3, 7);
        made(x, 3, 4, 100);
        told(x, 3, 4, 100);
        told(x, 3, 3, 1);
        made(x, 3, 4, 908);
        told(x, 3, 3, 9);
        Due.is("status(3)", x.status(3), 4);
    }

    private static void answers() {
        SomebodyWill x = new SomebodyWill();
        Due.row(x, 0, 3, 1, 0, -5, 1L << 40);
        made(x, 1, 5, 0);
        told(x, 1, 5, 13);
        x.set(0, 1, 1);
        told(x, 1, 5, 13);
        x.row(0, 0, 0);
        made(x, 2, 5, 0);
        told(x, 2, 5, 0);
        x.row(3, 4, 40);
        for (int i = 10; i < 15; i++) {
            x.set(3, i, 1);
        }
        made(x, 4, 5, 3);
        told(x, 4, 5, 3 << 10);
        made(x, 3, 5, 3);
        told(x, 3, 5, 3 << 10);
    }

    private static void waysRefused() {
        SomebodyWill x = new SomebodyWill();
        x.row(0, 0, 2);
        x.way(1, 1, 1);
        long[] ahead = Due.look(x);
        int[][] bad = {
            {-1, 1, 1}, {8, 1, 1}, {2, 0, 1}, {2, 6, 1}, {2, -1, 1}, {2, 1, -1}, {2, 1, 2}, {2, 2, -1}, {2, 2, 1001},
            {2, 3, -1}, {2, 3, 12}, {2, 4, 99}, {2, 4, 0}, {2, 4, 101}, {2, 4, 303}, {2, 4, 909}, {2, 4, 1000},
            {2, 4, -1}, {2, 4, -100}, {2, 5, -1}, {2, 5, 8}, {8, 5, 1}
        };
        for (int[] b : bad) {
            Due.refuses(x, -2, "way(" + b[0] + ", " + b[1] + ", " + b[2] + ")", () -> x.way(b[0], b[1], b[2]));
        }
        Due.refuses(x, -3, "way by a way", () -> x.way(2, 5, 1));
        Due.refuses(x, -4, "way by nothing", () -> x.way(0, 5, 3));
        Due.same("behind refused ways", ahead, Due.look(x));
    }

    private static void saysRefused() {
        SomebodyWill x = new SomebodyWill();
        x.row(0, 0, 2);
        x.way(1, 1, 1);
        x.way(2, 2, 600);
        x.way(3, 3, 4);
        x.way(4, 4, 301);
        x.way(5, 5, 0);
        long[] ahead = Due.look(x);
        int[][] bad = {{-1, 1}, {8, 1}, {0, -1}, {0, 6}, {7, 6}};
        for (int[] b : bad) {
            Due.refuses(x, -2, "says(" + b[0] + ", " + b[1] + ")", () -> x.says(b[0], b[1]));
        }
        int[][] other = {
            {0, 0}, {0, 5}, {1, 2}, {1, 3}, {1, 4}, {1, 5}, {2, 3}, {2, 4}, {2, 5}, {3, 1}, {3, 2}, {3, 4}, {3, 5},
            {4, 1}, {4, 2}, {4, 5}, {5, 1}, {5, 2}, {5, 3}, {5, 4}
        };
        for (int[] o : other) {
            Due.refuses(x, -3, "says(" + o[0] + ", " + o[1] + ")", () -> x.says(o[0], o[1]));
        }
        Due.refuses(x, -4, "says of nothing", () -> x.says(6, 0));
        Due.same("behind refused says", ahead, Due.look(x));
    }
}
