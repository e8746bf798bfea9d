/** Promises 41 to 44: pay and fines, and ROTAS. */
public final class PayTest {
    public static void main(String[] args) {
        needs();
        needsRefused();
        rotas();
        rotasOfSorts();
        rotasRefused();
        Due.end();
    }

    private static void needs() {
        SomebodyWill x = Due.with("people 4;cost 3;worth 9;more 1;tie 0 1 price 6;tie 1 2");
        Due.is("he does, another too", x.need(0, 0, 3), 2);
        Due.is("he does alone", x.need(0, 0, 1), 0);
        Due.is("he doesn't, another does", x.need(0, 0, 2), 0);
        Due.is("he doesn't, nobody does", x.need(0, 0, 4), 6);
        Due.is("pay(0, 3)", x.pay(0, 3), 2 + 2 + 0 + 6);
        Due.is("few(0, 3)", x.few(0, 3), 3);
        Due.is("pay of a rest", x.pay(0, 10), 0);
        Due.is("few of a rest", x.few(0, 10), 0);
        Due.is("pay(0, 0)", x.pay(0, 0), 24);
        Due.is("few(0, 0)", x.few(0, 0), 4);
        x.must(0, 1, true);
        Due.is("one that must, and does", x.need(0, 1, 3), 0);
        Due.is("one that must, and doesn't", x.need(0, 1, 0), 0);
        Due.is("pay with one that must", x.pay(0, 3), 8);
        Due.is("few with one that must", x.few(0, 3), 2);
        Due.refuses(x, -5, "pay: one that must doesn't", () -> x.pay(0, 8));
        Due.refuses(x, -5, "few: one that must doesn't", () -> x.few(0, 8));
    }

    private static void needsRefused() {
        SomebodyWill x = Due.with("people 4;cost 3;worth 9;must 1");
        int[][] bad = {{-1, 0, 2}, {1, 0, 2}, {0, -1, 2}, {0, 4, 2}, {0, 0, -1}, {0, 0, 16}};
        for (int[] b : bad) {
            Due.refuses(x, -2, "need(" + b[0] + ", " + b[1] + ", " + b[2] + ")", () -> x.need(b[0], b[1], b[2]));
        }
        int[][] sets = {{-1, 0}, {1, 0}, {0, -1}, {0, 16}};
        for (int[] b : sets) {
            Due.refuses(x, -2, "pay(" + b[0] + ", " + b[1] + ")", () -> x.pay(b[0], b[1]));
            Due.refuses(x, -2, "few(" + b[0] + ", " + b[1] + ")", () -> x.few(b[0], b[1]));
        }
    }

    private static void rotas() {
        SomebodyWill x = Due.with("people 3;cost 2;worth 7;tie 0 1", "people 3;cost 2;worth 4;tie 0 1;must 2");
        Due.row(x, 0, 2, 1, 3, 0);
        Due.is("1 is there for nothing", x.rota(0, 0, 2), 1);
        Due.is("0 is there for something", x.rota(0, 0, 1), -1);
        Due.row(x, 1, 2, 1, 3, 3, 3, 3, 2);
        Due.is("0 leaves", x.rota(0, 1, 5), 0);
        Due.is("0 stays for one good day", x.rota(0, 1, 3), 1);
        Due.row(x, 2, 2, 1, 3, 3, 2);
        Due.is("both stay", x.rota(0, 2, 4), -1);
        Due.row(x, 3, 2, 0, 0, 4);
        Due.is("nobody there", x.rota(0, 3, 3), -1);
        // of STREET 1: a day alone brings 2 more than it costs, a day with the other costs 2
        Due.row(x, 4, 2, 1, 3, 2, 3, 3);
        Due.is("just as much: he stays", x.rota(1, 4, 3), -1);
        Due.is("one day more: 0 leaves", x.rota(1, 4, 4), 0);
        x.alter(1, 0, 0, 0);
        Due.is("0 at no cost: 1 leaves", x.rota(1, 4, 4), 1);
        x.alter(1, 1, 0, 0);
        Due.is("neither", x.rota(1, 4, 5), -1);
        x.alter(1, 2, 1, 0);
        Due.is("one that must may not", x.rota(1, 4, 5), -1);
        x.must(1, 2, false);
        Due.row(x, 5, 2, 4);
        Due.is("now he may", x.rota(1, 5, 1), 2);
        x.must(1, 0, true);
        x.alter(1, 1, 0, 1);
        Due.row(x, 6, 2, 2);
        Due.is("one that must is there", x.rota(1, 6, 1), 1);
    }

    private static void rotasOfSorts() {
        SomebodyWill x = Due.with("people 12;cost 2;worth 7;ring");
        Due.row(x, 0, 1, 4095);
        Due.is("shorts", x.rota(0, 0, 1), 0);
        Due.row(x, 1, 3, 1170, 1L << 12, -1);
        Due.is("longs, the others are behind it", x.rota(0, 1, 1), -1);
        Due.refuses(x, -2, "no set", () -> x.rota(0, 1, 2));
        x.set(1, 1, 1L << 32);
        Due.refuses(x, -2, "no set, though its lowest bits are", () -> x.rota(0, 1, 2));
        x.set(1, 1, 0);
        Due.refuses(x, -2, "no set below", () -> x.rota(0, 1, 3));
        x.set(1, 0, 4096);
        Due.refuses(x, -2, "no set on the first day", () -> x.rota(0, 1, 1));
        Due.row(x, 2, 0, 127, 128);
        Due.is("bytes", x.rota(0, 2, 1), 0);
        Due.refuses(x, -2, "a byte below nought", () -> x.rota(0, 2, 2));
        Due.row(x, 3, 4, 1, 0, 5);
        Due.is("booleans", x.rota(0, 3, 3), -1);
        x.row(4, 2, 40);
        Due.is("forty days", x.rota(0, 4, 40), -1);
    }

    private static void rotasRefused() {
        SomebodyWill x = Due.with("people 3;cost 2;worth 7;tie 0 1");
        Due.row(x, 0, 2, 1, 3);
        x.way(1, 1, 1);
        long[] ahead = Due.look(x);
        int[][] bad = {{-1, 0, 1}, {1, 0, 1}, {0, -1, 1}, {0, 8, 1}, {0, 0, 0}, {0, 0, 41}, {0, 0, -1}, {0, 1, 0},
            {0, 2, 41}, {1, 1, 1}, {0, 0, 3}, {0, 0, 40}};
        for (int[] b : bad) {
            Due.refuses(x, -2, "rota(" + b[0] + ", " + b[1] + ", " + b[2] + ")", () -> x.rota(b[0], b[1], b[2]));
        }
        Due.refuses(x, -3, "a rota by a way", () -> x.rota(0, 1, 40));
        Due.refuses(x, -4, "a rota by nothing", () -> x.rota(0, 2, 40));
        Due.same("behind refused rotas", ahead, Due.look(x));
    }
}
