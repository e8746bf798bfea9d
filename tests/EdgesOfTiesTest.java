import java.util.ArrayList;
import java.util.List;

/** The edges of promises 38 to 44: ties, pay and fines, ROTAS. */
public final class EdgesOfTiesTest {
    private static final String LEAST = "-2147483648";
    private static final String GREATEST = "2147483647";
    private static final String[] STAR = {"read 'people 4;cost 3;worth 9;tie 0 1 price 2;tie 0 2;tie 0 3' = 0"};
    private static final String[] CHASE = {"read 'people 2;more 5;one 0 cost 7 worth 9;one 1 cost 3 worth 2;all' = 0"};
    private static final String[] TWELVE = {"read 'people 12;cost 3;worth 9;more 4' = 0"};
    private static final String[] ALONE = {"read 'people 1;cost 3;worth 9;more 4' = 0"};

    public static void main(String[] args) {
        badStreets();
        badSets();
        badNumbers();
        cutsOfNone();
        cutsInOrder();
        cutsJustAsMuch();
        addsOfNone();
        addsInOrder();
        addsAtPrices();
        lesses();
        needs();
        pays();
        rotasRefused();
        rotasOfDays();
        rotasOfSets();
        rotasJustAsMuch();
        rotasOfMusts();
        Due.end();
    }

    private static void badStreets() {
        String[] calls = {"cuts(#, 0)", "adds(#, 0, 0)", "less(#)", "need(#, 0, 0)", "pay(#, 0)", "few(#, 0)", "rota(#, 0, 1)"};
        for (String call : calls) {
            List<String> lines = new ArrayList<>(List.of(STAR));
            lines.add("row(0, 0, 1)");
            lines.add(call.replace("#", "0"));
            for (String street : new String[] {"-1", "1", "4", LEAST, GREATEST}) {
                lines.add(call.replace("#", street) + " = BAD");
            }
            Script.run(call + ": BAD: no such STREET", lines);
        }
    }

    private static void badSets() {
        for (String call : new String[] {"cuts(0, #)", "adds(0, #, 0)", "need(0, 0, #)", "pay(0, #)", "few(0, #)"}) {
            Script.run(call + ": BAD: a set has PERSONS alone", Script.behind(STAR, call.replace("#", "-1") + " = BAD",
                call.replace("#", "16") + " = BAD", call.replace("#", "17") + " = BAD", call.replace("#", LEAST) + " = BAD",
                call.replace("#", GREATEST) + " = BAD", call.replace("#", "0"), call.replace("#", "15"), "status(12) = 5"));
            Script.run(call + ": a set of 12 PERSONS", Script.behind(TWELVE, call.replace("#", "4095"), "status(12) = 0",
                call.replace("#", "4096") + " = BAD"));
        }
    }

    private static void badNumbers() {
        Script.run("39: BAD: a PRICE (0 to 9)", Script.behind(TWELVE, "adds(0, 3, -1) = BAD", "adds(0, 3, 10) = BAD",
            "adds(0, 3, " + LEAST + ") = BAD", "adds(0, 3, " + GREATEST + ") = BAD", "adds(0, 3, 0) = 1", "adds(0, 3, 9) = NONE"));
        Script.run("41: BAD: no such PERSON", Script.behind(STAR, "need(0, -1, 0) = BAD", "need(0, 4, 0) = BAD", "need(0, 12, 0) = BAD",
            "need(0, " + LEAST + ", 0) = BAD", "need(0, " + GREATEST + ", 0) = BAD", "need(0, 3, 0) = 6", "need(0, 0, 0) = 6"));
        Script.run("41: the twelfth PERSON", Script.behind(TWELVE, "need(0, 11, 0) = 6", "need(0, 12, 0) = BAD"));
    }

    // ---- 38

    private static void cutsOfNone() {
        Script.run("38: NONE: none are NEAR", Script.behind(TWELVE, "cuts(0, 0) = NONE", "cuts(0, 4095) = NONE"));
        Script.run("38: NONE: one alone", Script.behind(ALONE, "cuts(0, 0) = NONE", "cuts(0, 1) = NONE"));
        Script.run("38: NONE: ties at PRICE 0", "read 'people 3;cost 3;worth 9;all' = 0", "cuts(0, 0) = NONE", "cuts(0, 1) = NONE",
            "cuts(0, 7) = NONE", "streetOf(0, 1) = 3");
    }

    private static void cutsInOrder() {
        Script.run("38: the first two: by the lesser, then the other",
            "read 'people 4;tie 2 3 price 1;tie 3 1 price 1;tie 2 1 price 1;tie 0 3 price 1' = 0", "cuts(0, 0) = 3", "tie(0, 3, 0, 0) = 1",
            "cuts(0, 0) = 102", "tie(0, 1, 2, 0) = 1", "cuts(0, 0) = 103", "tie(0, 1, 3, 0) = 1", "cuts(0, 0) = 203", "tie(0, 2, 3, 0) = 1",
            "cuts(0, 0) = NONE");
        Script.run("38: the last two of 12", Script.behind(TWELVE, "tie(0, 11, 10, 1)", "cuts(0, 0) = 1011", "tie(0, 11, 0, 1)", "cuts(0, 0) = 11"));
        Script.run("38: the STREET stays as it is", Script.behind(STAR, "cuts(0, 6) = 1", "tie(0, 0, 1, 2) = 2", "cuts(0, 6) = 1",
            "personOf(0, 0, 5) = 2", "streetOf(0, 4) = 2", "streetOf(0, 1) = 3"));
    }

    private static void cutsJustAsMuch() {
        // 0 has 2 for nothing, and 2 has 0: 1 helps him still
        Script.run("38: without their tie, with all others", "read 'people 3;worth 9;more 5;tie 0 1;tie 0 2 price 3' = 0", "cuts(0, 3) = 2",
            "tie(0, 0, 1, 4)", "cuts(0, 3) = 2", "tie(0, 0, 1, 5)", "cuts(0, 3) = 2", "tie(0, 0, 1, 6)", "cuts(0, 3) = 1");
        Script.run("38: of whom one GAINS more: not as much", "read 'people 2;worth 9;more 3;tie 0 1 price 3' = 0", "cuts(0, 3) = NONE",
            "cuts(0, 1) = 1", "cuts(0, 2) = 1", "cuts(0, 0) = 1", "tie(0, 0, 1, 4)", "cuts(0, 3) = 1", "tie(0, 0, 1, 2)", "cuts(0, 3) = NONE",
            "tie(0, 0, 1, 9)", "alter(0, 0, 1, 9)", "cuts(0, 2) = 1");
        Script.run("38: of whom one GAINS more: the lesser, the other, both", "read 'people 2;worth 9;tie 0 1 price 5' = 0", "cuts(0, 1) = 1",
            "cuts(0, 2) = 1", "cuts(0, 3) = 1", "alter(0, 0, 1, 5)", "alter(0, 1, 1, 5)", "cuts(0, 1) = 1", "alter(0, 0, 1, 99)", "alter(0, 1, 1, 99)",
            "cuts(0, 1) = 1", "cuts(0, 0) = 1");
    }

    // ---- 39

    private static void addsOfNone() {
        Script.run("39: NONE: all are NEAR", "read 'people 3;cost 3;worth 9;more 4;all' = 0", "adds(0, 7, 0) = NONE", "tie(0, 1, 2, -1)",
            "adds(0, 7, 0) = 102");
        Script.run("39: NONE: one alone", Script.behind(ALONE, "adds(0, 0, 0) = NONE", "adds(0, 1, 0) = NONE"));
        Script.run("39: NONE: of twelve", Script.behind(TWELVE, "adds(0, 0, 0) = NONE", "adds(0, 2048, 0) = NONE", "adds(0, 4095, 4) = NONE"));
    }

    private static void addsInOrder() {
        Script.run("39: the first two that aren't NEAR", Script.behind(TWELVE, "adds(0, 4095, 0) = 1", "tie(0, 0, 1, 0)", "adds(0, 4095, 0) = 2",
            "adds(0, 4094, 0) = 102", "adds(0, 3072, 0) = 1011", "adds(0, 2049, 0) = 11"));
        Script.run("39: the STREET stays as it is", Script.behind(TWELVE, "adds(0, 3, 3) = 1", "adds(0, 3, 9) = NONE", "streetOf(0, 1) = 0",
            "streetOf(0, 4) = 0", "personOf(0, 0, 2) = 0", "personOf(0, 1, 5) = 0"));
    }

    private static void addsAtPrices() {
        Script.run("39: who both GAIN more: not as much", Script.behind(TWELVE, "adds(0, 3, 3) = 1", "adds(0, 3, 4) = NONE", "adds(0, 3, 5) = NONE"));
        Script.run("39: who both GAIN more: not one alone", Script.behind(TWELVE, "adds(0, 1, 0) = NONE", "adds(0, 2, 0) = NONE",
            "alter(0, 1, 1, 99)", "adds(0, 1, 0) = NONE"));
        Script.run("39: who both GAIN more: not one who GAINS less", Script.behind(TWELVE, "adds(0, 1, 3) = NONE", "adds(0, 2, 3) = NONE",
            "adds(0, 2048, 3) = NONE"));
        Script.run("39: who both GAIN more: by MORE", "read 'people 3;worth 5;more 9;tie 1 2' = 0", "adds(0, 5, 8) = 2", "adds(0, 5, 9) = NONE",
            "adds(0, 3, 4) = 1", "adds(0, 3, 8) = 1", "adds(0, 3, 9) = NONE");
        Script.run("39: at the greatest PRICE", "read 'people 3;worth 10;more 9;tie 1 2;tie 0 2' = 0", "adds(0, 6, 9) = NONE", "adds(0, 3, 9) = NONE",
            "adds(0, 3, 8) = 1");
    }

    // ---- 40

    private static void lesses() {
        Script.run("40: STATE: no REST now", Script.behind(CHASE, "less(0) = STATE", "less(1) = BAD", "tie(0, 0, 1, -1)", "less(0) = NONE"));
        Script.run("40: NONE: all are NEAR", "read 'people 3;cost 3;worth 9;all' = 0", "less(0) = NONE");
        Script.run("40: NONE: one alone", Script.behind(ALONE, "less(0) = NONE"));
        Script.run("40: NONE: nobody does", "read 'people 3;cost 3' = 0", "fewest(0) = 0", "less(0) = NONE");
        Script.run("40: NONE: all MUST", "read 'people 2;cost 4;worth 5;must 0;must 1' = 0", "less(0) = NONE");
        Script.run("40: NONE: by each tie there are as many", "read 'people 5;cost 3;worth 9;ring' = 0", "fewest(0) = 5", "less(0) = NONE");
        Script.run("40: NONE: by the tie there is no REST", "read 'people 2;more 5;one 0 cost 7 worth 9;one 1 cost 3 worth 2' = 0",
            "fewest(0) = 1", "less(0) = NONE", "streetOf(0, 1) = 0");
        Script.run("40: the first two: by the lesser, then the other", "read 'people 4;cost 3;worth 5' = 0", "less(0) = 1", "tie(0, 0, 1, 0)",
            "less(0) = 2", "tie(0, 0, 2, 0)", "less(0) = 3", "tie(0, 0, 3, 0)", "less(0) = NONE", "tie(0, 0, 1, -1)", "less(0) = 1");
        Script.run("40: ahead of those that come later", "read 'people 4;cost 3;worth 5;tie 1 0 price 4;tie 1 3' = 0", "less(0) = 102",
            "streetOf(0, 4) = 4", "streetOf(0, 1) = 2", "personOf(0, 2, 2) = 0");
        Script.run("40: NONE: by MORE all would do still", Script.behind(TWELVE, "fewest(0) = 4095", "less(0) = NONE", "alter(0, 0, 0, 9)",
            "fewest(0) = 4094", "less(0) = NONE"));
        // 0 alone, and 1 with 2, who cost less: by their tie there were one DOER alone again
        Script.run("40: NONE: fewer than the fewest, not than the cheapest", "read 'people 3;cost 3;worth 9;one 0 cost 7 worth 9;tie 0 1;tie 0 2' = 0",
            "fewest(0) = 1", "cheap(0) = 6", "best(0) = 6", "less(0) = NONE");
        Script.run("40: the last two of 12", "read 'people 12;cost 99;one 10 cost 3 worth 9;one 11 cost 3 worth 9;all' = 0", "less(0) = NONE",
            "tie(0, 10, 11, -1)", "fewest(0) = 3072", "less(0) = 1011");
        Script.run("40: (at PRICE 0)", "read 'people 2;cost 3;worth 5' = 0", "less(0) = 1", "tie(0, 0, 1, 9)", "tie(0, 0, 1, -1)", "less(0) = 1",
            "streetOf(0, 4) = 0");
    }

    // ---- 41 to 43

    private static void needs() {
        Script.run("41: paid (if he does) at least", Script.behind(STAR, "need(0, 0, 3) = 3", "need(0, 1, 3) = 3", "need(0, 0, 1) = 0"));
        Script.run("41: fined (if not) at least", Script.behind(STAR, "need(0, 0, 0) = 6", "need(0, 0, 2) = 0", "need(0, 3, 2) = 6"));
        Script.run("41: he WOULD not: nought", "read 'people 2;cost 5;worth 5;more 5;all' = 0", "need(0, 0, 0) = 0", "need(0, 0, 1) = 0",
            "need(0, 0, 3) = 0", "alter(0, 0, 0, 4)", "need(0, 0, 0) = 1", "need(0, 0, 1) = 0", "alter(0, 0, 0, 6)", "need(0, 0, 1) = 1",
            "need(0, 0, 3) = 1", "need(0, 0, 2) = 0");
        Script.run("41: the greatest", "read 'people 2;one 0 cost 99 worth 0;one 1 cost 0 worth 99' = 0", "need(0, 0, 1) = 99", "need(0, 1, 0) = 99",
            "pay(0, 1) = 198", "few(0, 1) = 2");
        Script.run("41: one that MUST", Script.behind(STAR, "must(0, 0, true)", "need(0, 0, 0) = 0", "need(0, 0, 3) = 0", "need(0, 0, 1) = 0"));
    }

    private static void pays() {
        for (String call : new String[] {"pay", "few"}) {
            Script.run(call + ": STATE: one that MUST doesn't", Script.behind(STAR, "must(0, 0, true)", "must(0, 3, true)", call + "(0, 0) = STATE",
                call + "(0, 1) = STATE", call + "(0, 8) = STATE", call + "(0, 14) = STATE", call + "(0, 9) = 0"));
            Script.run(call + ": BAD ahead of STATE", Script.behind(STAR, "must(0, 0, true)", call + "(0, 16) = BAD", call + "(0, -2) = BAD",
                call + "(1, 0) = BAD"));
            Script.run(call + ": of a REST nought", Script.behind(STAR, call + "(0, 1) = 0", call + "(0, 14) = 0"));
        }
        Script.run("42: all that together; 43: how many", Script.behind(STAR, "pay(0, 0) = 24", "few(0, 0) = 4", "pay(0, 15) = 12", "few(0, 15) = 4",
            "pay(0, 3) = 6", "few(0, 3) = 2", "must(0, 0, true)", "pay(0, 3) = 3", "few(0, 3) = 1"));
        Script.run("42: one that need not be paid or fined at all", "read 'people 2;cost 5;worth 5' = 0", "pay(0, 0) = 0", "few(0, 0) = 0",
            "pay(0, 3) = 0", "few(0, 3) = 0");
        Script.run("43: of one that needs 1", "read 'people 2;cost 5;worth 5;one 1 cost 5 worth 6' = 0", "pay(0, 0) = 1", "few(0, 0) = 1",
            "need(0, 1, 0) = 1", "few(0, 2) = 0");
        Script.run("42: of twelve", Script.behind(TWELVE, "pay(0, 0) = 72", "few(0, 0) = 12", "pay(0, 4095) = 0", "few(0, 4095) = 0"));
    }

    // ---- 44

    private static final String[] ROTAS = Script.behind(STAR, "row(0, 1, 2)", "set(0, 0, 1)", "set(0, 1, 3)", "way(1, 1, 1)", "row(2, 3, 0)",
        "row(7, 3, 40)");

    private static void rotasRefused() {
        Script.run("44: BAD SHELF", Script.behind(ROTAS, "rota(0, 0, 1) = NONE", "rota(0, 7, 1) = NONE", "rota(0, -1, 1) = BAD",
            "rota(0, 8, 1) = BAD", "rota(0, " + LEAST + ", 1) = BAD"));
        Script.run("44: BAD n (1 to 40)", Script.behind(ROTAS, "rota(0, 7, 1) = NONE", "rota(0, 7, 40) = NONE", "rota(0, 7, 0) = BAD",
            "rota(0, 7, 41) = BAD", "rota(0, 7, -1) = BAD", "rota(0, 7, " + LEAST + ") = BAD", "rota(0, 7, " + GREATEST + ") = BAD"));
        Script.run("44: BAD STREET, SHELF, n ahead of OTHER and NOTHING", Script.behind(ROTAS, "rota(1, 1, 1) = BAD", "rota(-1, 3, 1) = BAD",
            "rota(0, 1, 0) = BAD", "rota(0, 1, 41) = BAD", "rota(0, 3, 0) = BAD", "rota(0, 3, 41) = BAD"));
        Script.run("44: OTHER; NOTHING", Script.behind(ROTAS, "rota(0, 1, 1) = OTHER", "rota(0, 1, 40) = OTHER", "rota(0, 3, 1) = NOTHING",
            "rota(0, 6, 40) = NOTHING"));
        Script.run("44: BAD: fewer elements", Script.behind(ROTAS, "rota(0, 0, 2) = 1", "rota(0, 0, 3) = BAD", "rota(0, 0, 40) = BAD",
            "rota(0, 2, 1) = BAD", "row(0, 1, 39)", "rota(0, 0, 39) = NONE", "rota(0, 0, 40) = BAD"));
    }

    private static void rotasOfDays() {
        Script.run("44: on DAYS 0 .. n - 1: those behind don't count", Script.behind(ROTAS, "rota(0, 0, 1) = NONE", "rota(0, 0, 2) = 1",
            "set(0, 1, 16) = 1", "rota(0, 0, 1) = NONE", "rota(0, 0, 2) = BAD", "set(0, 1, -1) = 1", "rota(0, 0, 1) = NONE"));
        Script.run("44: the fortieth day", Script.behind(ROTAS, "set(7, 39, 3)", "rota(0, 7, 39) = NONE", "rota(0, 7, 40) = 0", "set(7, 39, 16)",
            "rota(0, 7, 39) = NONE", "rota(0, 7, 40) = BAD"));
        Script.run("44: no DOERS on any day", Script.behind(ROTAS, "set(0, 0, 0)", "set(0, 1, 0)", "rota(0, 0, 2) = NONE"));
    }

    private static void rotasOfSets() {
        Script.run("44: one that is no set", Script.behind(ROTAS, "set(0, 0, 15)", "rota(0, 0, 1) = 0", "set(0, 0, 16)", "rota(0, 0, 1) = BAD",
            "set(0, 0, -1)", "rota(0, 0, 1) = BAD", "set(0, 0, -32768)", "rota(0, 0, 1) = BAD"));
        Script.run("44: one that is no set, of longs whose lowest bits are one", Script.behind(ROTAS, "set(7, 0, 4294967297)", "rota(0, 7, 1) = BAD",
            "set(7, 0, -9223372036854775807)", "rota(0, 7, 1) = BAD", "set(7, 0, 9223372036854775807)", "rota(0, 7, 1) = BAD", "set(7, 0, 1)",
            "rota(0, 7, 1) = NONE"));
        Script.run("44: a set of 12 PERSONS", Script.behind(TWELVE, "row(0, 1, 1)", "set(0, 0, 4095)", "rota(0, 0, 1) = NONE", "set(0, 0, 4096)",
            "rota(0, 0, 1) = BAD", "alter(0, 11, 0, 10)", "set(0, 0, 2048)", "rota(0, 0, 1) = 11"));
        Script.run("44: of booleans PERSON 0 alone, of bytes those up to 127", Script.behind(TWELVE, "row(0, 4, 1)", "set(0, 0, 2)",
            "rota(0, 0, 1) = NONE", "alter(0, 0, 0, 10)", "rota(0, 0, 1) = 0", "row(0, 0, 1)", "set(0, 0, 128)", "rota(0, 0, 1) = BAD",
            "set(0, 0, 127)", "rota(0, 0, 1) = 0", "alter(0, 0, 0, 9)", "rota(0, 0, 1) = NONE"));
    }

    private static void rotasJustAsMuch() {
        // a day alone brings 6 more than it costs, one with another on it costs him 3
        Script.run("44: who GAINS more in all: not as much", Script.behind(STAR, "row(0, 0, 4)", "set(0, 0, 1)", "set(0, 1, 3)", "set(0, 2, 5)",
            "set(0, 3, 9)", "rota(0, 0, 1) = NONE", "rota(0, 0, 2) = 1", "alter(0, 1, 0, 0)", "rota(0, 0, 2) = NONE", "alter(0, 2, 0, 0)",
            "alter(0, 3, 0, 0)", "rota(0, 0, 3) = NONE", "rota(0, 0, 4) = 0", "set(0, 0, 0)", "rota(0, 0, 2) = 0"));
        Script.run("44: if he does on none: he who does on none already", Script.behind(STAR, "alter(0, 3, 0, 99)", "row(0, 0, 1)", "set(0, 0, 1)",
            "rota(0, 0, 1) = NONE", "set(0, 0, 8)", "rota(0, 0, 1) = 3"));
    }

    private static void rotasOfMusts() {
        Script.run("44: (with all that MUST), and one that needn't", Script.behind(STAR, "row(0, 0, 1)", "set(0, 0, 2)", "rota(0, 0, 1) = NONE",
            "must(0, 0, true)", "rota(0, 0, 1) = 1", "set(0, 0, 0)", "rota(0, 0, 1) = NONE", "must(0, 1, true)", "rota(0, 0, 1) = NONE",
            "set(0, 0, 15)", "rota(0, 0, 1) = 2", "must(0, 2, true)", "rota(0, 0, 1) = 3", "must(0, 3, true)", "rota(0, 0, 1) = NONE"));
    }
}
