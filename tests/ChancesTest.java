import java.math.BigInteger;

/** Promises 34 to 37: LOT, NOBODY, and BARS. */
public final class ChancesTest {
    public static void main(String[] args) {
        lots();
        refusedLots();
        known();
        bars();
        barsByTheirWords();
        Due.end();
    }

    private static void lots() {
        SomebodyWill x = new SomebodyWill();
        Due.is("lot(3, 9, 2)", x.lot(3, 9, 2), 422);
        Due.is("lot(9, 3, 1)", x.lot(9, 3, 1), 0);
        Due.is("lot(5, 5, 5)", x.lot(5, 5, 5), 0);
        Due.is("lot(1, 2, 1): just as much", x.lot(1, 2, 1), 500);
        Due.is("lot(1, 99, 1)", x.lot(1, 99, 1), 989);
        Due.is("nobody(1, 2, 1)", x.nobody(1, 2, 1), 250000);
        Due.is("nobody(9, 3, 1)", x.nobody(9, 3, 1), 1000000);
        Due.is("nobody(3, 9, 2), cut", x.nobody(3, 9, 2), 193100);
        Due.is("nobody(99, 1, 5)", x.nobody(99, 1, 5), 1000000);
        int[] ends = {1, 2, 50, 98, 99};
        for (int c : ends) {
            for (int w : ends) {
                for (int d = 1; d <= 5; d++) {
                    int lot = lot(c, w, d);
                    String told = "(" + c + ", " + w + ", " + d + ")";
                    Due.is("lot" + told, x.lot(c, w, d), lot);
                    int nobody = BigInteger.valueOf(1000 - lot).pow(d + 1)
                        .divide(BigInteger.valueOf(1000).pow(d - 1)).intValueExact();
                    Due.is("nobody" + told, x.nobody(c, w, d), nobody);
                }
            }
        }
    }

    private static int lot(int c, int w, int d) {
        int found = 0;
        BigInteger least = BigInteger.valueOf(c).multiply(BigInteger.valueOf(1000).pow(d));
        for (int x = 0; x <= 1000; x++) {
            if (BigInteger.valueOf(w).multiply(BigInteger.valueOf(1000 - x).pow(d)).compareTo(least) >= 0) {
                found = x;
            }
        }
        return found;
    }

    private static void refusedLots() {
        SomebodyWill x = new SomebodyWill();
        int[][] bad = {{0, 5, 1}, {100, 5, 1}, {5, 0, 1}, {5, 100, 1}, {5, 5, 0}, {5, 5, 6}, {-1, 5, 1}, {5, -1, 1}, {5, 5, -1}};
        for (int[] b : bad) {
            String told = "(" + b[0] + ", " + b[1] + ", " + b[2] + ")";
            Due.refuses(x, -2, "lot" + told, () -> x.lot(b[0], b[1], b[2]));
            Due.refuses(x, -2, "nobody" + told, () -> x.nobody(b[0], b[1], b[2]));
        }
    }

    private static void known() {
        SomebodyWill x = new SomebodyWill();
        Due.is("know(0, 20)", x.know(0, 20), 0);
        Due.is("know(5, 3)", x.know(5, 3), 0);
        int[][] bad = {{-1, 1}, {6, 1}, {0, -1}, {0, 21}};
        for (int[] b : bad) {
            Due.refuses(x, -2, "know(" + b[0] + ", " + b[1] + ")", () -> x.know(b[0], b[1]));
        }
        Due.is("know(0, 1)", x.know(0, 1), 20);
        Due.is("know(5, 0)", x.know(5, 0), 3);
        Due.is("know(0, 0)", x.know(0, 0), 1);
    }

    private static void bars() {
        SomebodyWill x = new SomebodyWill();
        Due.is("none known", x.bar(3, 9), 0);
        x.know(0, 5);
        Due.is("alone and worth it", x.bar(9, 9), 1);
        Due.is("alone and not worth it", x.bar(9, 8), 0);
        x.know(0, 0);
        x.know(1, 4);
        x.know(3, 2);
        Due.is("those with one near do", x.bar(3, 9), 2);
        Due.is("none does", x.bar(9, 8), 0);
        // all with 1 would do while all with 3 do and while they don't: 9 * 6 is 6 * 9 - and 3 would too: none
        x.know(3, 0);
        Due.is("all are alike: by none they do, by all they don't", x.bar(3, 9), -1);
        int[][] bad = {{0, 5}, {100, 5}, {5, 0}, {5, 100}, {-1, 5}, {5, -1}};
        for (int[] b : bad) {
            Due.refuses(x, -2, "bar(" + b[0] + ", " + b[1] + ")", () -> x.bar(b[0], b[1]));
        }
    }

    private static void barsByTheirWords() {
        int seed = 7;
        int[] met = new int[8];
        for (int run = 0; run < 40; run++) {
            SomebodyWill x = new SomebodyWill();
            int[] n = new int[6];
            for (int d = 0; d < 6; d++) {
                seed = seed * 1103515245 + 12345;
                n[d] = Math.max(0, (seed >>> 16) % 33 - 12);
                x.know(d, n[d]);
            }
            for (int c = 1; c < 100; c += 7) {
                for (int w = 1; w < 100; w += 11) {
                    int due = bar(n, c, w);
                    met[due + 1]++;
                    Due.is("bar(" + c + ", " + w + ") of run " + run, x.bar(c, w), due);
                }
            }
        }
        Due.is("some had no bar", met[0] > 0 ? 1 : 0, 1);
        Due.is("some had a bar between", met[2] + met[3] + met[4] + met[5] > 0 ? 1 : 0, 1);
    }

    private static int bar(int[] n, int c, int w) {
        for (int b = -1; b <= 5; b++) {
            boolean rests = true;
            for (int d = 0; d <= 5; d++) {
                if (n[d] > 0 && would(n, b, d, c, w) != d <= b) {
                    rests = false;
                }
            }
            if (rests) {
                return b + 1;
            }
        }
        return -1;
    }

    private static boolean would(int[] n, int b, int d, int c, int w) {
        int e = 0;
        int below = 0;
        for (int k = 0; k <= 5; k++) {
            e += k * n[k];
            below += k <= b ? k * n[k] : 0;
        }
        BigInteger left = BigInteger.valueOf(e - below).pow(d).multiply(BigInteger.valueOf(w));
        return left.compareTo(BigInteger.valueOf(e).pow(d).multiply(BigInteger.valueOf(c))) >= 0;
    }
}
