import java.util.ArrayList;
import java.util.List;

/** The edges of promises 34 to 37: LOT, NOBODY, KNOWN, and BARS. */
public final class EdgesOfChancesTest {
    private static final String LEAST = "-2147483648";
    private static final String GREATEST = "2147483647";

    public static void main(String[] args) {
        alikeRefused();
        lots();
        nobodies();
        knowing();
        knowingRefused();
        barsRefused();
        barsOfNone();
        barsAtEachPlace();
        barsOfThoseThatSomeHave();
        barsJustAsMuch();
        noBar();
        Due.end();
    }

    private static void alikeRefused() {
        for (String call : new String[] {"lot", "nobody"}) {
            Script.run(call + ": COST c (1 to 99)", call + "(0, 5, 1) = BAD", call + "(100, 5, 1) = BAD", call + "(-1, 5, 1) = BAD",
                call + "(" + LEAST + ", 5, 1) = BAD", call + "(" + GREATEST + ", 5, 1) = BAD", call + "(1, 5, 1)", call + "(99, 5, 1)",
                "status(12) = 5");
            Script.run(call + ": WORTH w (1 to 99)", call + "(5, 0, 1) = BAD", call + "(5, 100, 1) = BAD", call + "(5, -1, 1) = BAD",
                call + "(5, " + LEAST + ", 1) = BAD", call + "(5, " + GREATEST + ", 1) = BAD", call + "(5, 1, 1)", call + "(5, 99, 1)",
                "status(12) = 5");
            Script.run(call + ": d (1 to 5)", call + "(5, 9, 0) = BAD", call + "(5, 9, 6) = BAD", call + "(5, 9, -1) = BAD",
                call + "(5, 9, " + LEAST + ") = BAD", call + "(5, 9, " + GREATEST + ") = BAD", call + "(5, 9, 1)", call + "(5, 9, 5)",
                "status(12) = 5");
        }
    }

    private static void lots() {
        Script.run("LOT: (0 if there is none)", "lot(2, 1, 1) = 0", "lot(99, 98, 5) = 0", "lot(99, 1, 1) = 0", "lot(99, 1, 5) = 0");
        Script.run("LOT: is c 1000 ^ d at least: by none alone", "lot(1, 1, 1) = 0", "lot(99, 99, 5) = 0", "lot(50, 50, 3) = 0");
        Script.run("LOT: just as much, and a thousandth less", "lot(1, 2, 1) = 500", "lot(1, 4, 2) = 500", "lot(1, 8, 3) = 500",
            "lot(1, 16, 4) = 500", "lot(1, 32, 5) = 500", "lot(1, 3, 1) = 666", "lot(9, 10, 1) = 100", "lot(81, 10, 2) = 0", "lot(64, 81, 2) = 111");
        Script.run("LOT: the greatest of all", "lot(1, 99, 1) = 989", "lot(1, 99, 2) = 899", "lot(1, 99, 5) = 601");
        Script.run("LOT: the least above nought", "lot(98, 99, 1) = 10", "lot(98, 99, 2) = 5", "lot(98, 99, 5) = 2");
    }

    private static void nobodies() {
        Script.run("NOBODY: LOT is 0: in all millionths", "nobody(2, 1, 1) = 1000000", "nobody(99, 1, 5) = 1000000", "nobody(7, 7, 3) = 1000000");
        Script.run("NOBODY: by 1000 ^ (d - 1): d 1", "nobody(1, 2, 1) = 250000", "nobody(1, 99, 1) = 121", "nobody(1, 3, 1) = 111556");
        Script.run("NOBODY: by 1000 ^ (d - 1), d 2 to 5", "nobody(1, 4, 2) = 125000", "nobody(1, 8, 3) = 62500", "nobody(1, 16, 4) = 31250",
            "nobody(1, 32, 5) = 15625");
        // 578 ^ 3 is 193100552; 101 ^ 3 is 1030301; 399 ^ 6 is 4034 .. of 12 digits more; 998 ^ 6 is 0.988059..
        Script.run("NOBODY: cut", "nobody(3, 9, 2) = 193100", "nobody(1, 99, 2) = 1030", "nobody(1, 99, 5) = 4034", "nobody(98, 99, 5) = 988059");
    }

    private static void knowing() {
        Script.run("36: d (0 to 5), a number (0 to 20): how many had", "know(0, 20) = 0", "know(0, 0) = 20", "know(5, 20) = 0", "know(5, 1) = 20",
            "know(5, 0) = 1", "know(0, 7) = 0", "know(0, 7) = 7");
    }

    private static void knowingRefused() {
        Script.run("36: BAD: d", "know(0, 3)", "know(5, 4)", "know(-1, 1) = BAD", "know(6, 1) = BAD", "know(" + LEAST + ", 1) = BAD",
            "know(" + GREATEST + ", 1) = BAD", "know(0, 0) = 3", "know(5, 0) = 4");
        Script.run("36: BAD: how many", "know(0, 3)", "know(5, 4)", "know(0, -1) = BAD", "know(5, 21) = BAD", "know(0, " + LEAST + ") = BAD",
            "know(0, " + GREATEST + ") = BAD", "know(0, 0) = 3", "know(5, 0) = 4");
    }

    private static void barsRefused() {
        Script.run("37: a COST and a WORTH (1 to 99)", "know(0, 1)", "bar(0, 5) = BAD", "bar(100, 5) = BAD", "bar(-1, 5) = BAD", "bar(5, 0) = BAD",
            "bar(5, 100) = BAD", "bar(5, -1) = BAD", "bar(" + LEAST + ", 5) = BAD", "bar(5, " + GREATEST + ") = BAD", "bar(1, 1) = 1",
            "bar(99, 99) = 1", "bar(99, 1) = 0", "bar(1, 99) = 1");
    }

    private static void barsOfNone() {
        Script.run("37: none are KNOWN: BAR -1, and 1", "bar(3, 9) = 0", "bar(9, 3) = 0", "bar(5, 5) = 0", "bar(1, 99) = 0", "bar(99, 1) = 0");
        Script.run("37: those without any NEAR (a power 0 is 1)", "know(0, 20)", "bar(9, 9) = 1", "bar(9, 8) = 0", "bar(1, 1) = 1", "bar(3, 9) = 1");
    }

    /** Of two numbers of NEAR ones that some have: those with fewer do, and those with more don't. */
    private static void barsAtEachPlace() {
        Script.run("37: BAR 0", "know(0, 1)", "know(3, 2)", "bar(5, 4) = 0", "bar(5, 5) = NONE");
        Script.run("37: BAR 1", "know(1, 4)", "know(3, 2)", "bar(3, 9) = 2");
        Script.run("37: BAR 2", "know(2, 1)", "know(5, 8)", "bar(8, 9) = 3");
        Script.run("37: BAR 3", "know(3, 1)", "know(5, 8)", "bar(7, 9) = 4");
        Script.run("37: BAR 4", "know(4, 1)", "know(5, 20)", "bar(5, 6) = 5", "bar(5, 9) = NONE");
        Script.run("37: the least of several", "know(0, 20)", "know(1, 1)", "bar(9, 9) = NONE", "know(1, 0)", "bar(9, 9) = 1");
    }

    private static void barsOfThoseThatSomeHave() {
        // those with 2, and with 0, would do: nobody has so many
        Script.run("37: all d up to b that some have", "know(1, 4)", "know(3, 2)", "bar(3, 9) = 2", "know(2, 1)", "bar(3, 9) = NONE",
            "know(3, 3)", "bar(3, 9) = 3");
        Script.run("37: and none above: that some have", "know(1, 4)", "know(5, 1)", "bar(3, 9) = 2");
    }

    private static void barsJustAsMuch() {
        // E is 10; of BAR 1 D is 5: one with 1 does by 5 w, one with 5 by 3125 w of 100000 c
        Script.run("37: is c E ^ d at least", "know(1, 5)", "know(5, 1)", "bar(1, 2) = 2", "bar(2, 4) = 2", "bar(49, 98) = 2", "bar(50, 99) = NONE",
            "bar(1, 32) = NONE", "bar(1, 31) = 2", "bar(3, 93) = 2", "bar(3, 96) = NONE");
    }

    private static void noBar() {
        Script.run("37: NONE: none is", "know(1, 4)", "bar(3, 9) = NONE", "bar(9, 3) = 0", "know(1, 20)", "know(2, 20)", "know(3, 20)", "know(4, 20)",
            "know(5, 20)", "bar(1, 1) = NONE", "bar(1, 99) = 5", "bar(99, 98) = 0", "status(12) = 0");
    }
}
