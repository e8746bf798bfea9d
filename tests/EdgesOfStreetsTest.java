import java.util.ArrayList;
import java.util.List;

/** The edges of promises 12 to 18: what is told of STREETS and PERSONS, and what is changed in them. */
public final class EdgesOfStreetsTest {
    private static final String LEAST = "-2147483648";
    private static final String GREATEST = "2147483647";
    private static final String[] STAR = {
        "read 'people 4;cost 2;worth 7;more 1;tie 0 1 price 3;tie 0 2;tie 0 3 price 5;must 2' = 0"};
    private static final String[] TWELVE = {"read 'people 12;cost 3;worth 9' = 0"};
    private static final String[] ALONE = {"read 'people 1' = 0"};

    public static void main(String[] args) {
        streetsTold();
        personsTold();
        greatestNear();
        altering();
        tying();
        tyingAhead();
        having();
        taking();
        takingRefused();
        coming();
        comingTwelfth();
        comingRefused();
        Due.end();
    }

    /** A call for each of some STREETS that there aren't, with one that there is. */
    private static List<String> badStreets(String call, String... behind) {
        List<String> lines = new ArrayList<>(List.of(STAR));
        for (String street : new String[] {"-1", "1", "2", "3", "4", LEAST, GREATEST}) {
            lines.add(call.replace("#", street) + " = BAD");
        }
        lines.addAll(List.of(behind));
        return lines;
    }

    private static void streetsTold() {
        Script.run("12: BAD: no such STREET", badStreets("streetOf(#, 0)", "streetOf(0, 0) = 4"));
        Script.run("12: BAD: what 0 to 4", Script.behind(STAR, "streetOf(0, 0) = 4", "streetOf(0, 4) = 8", "streetOf(0, -1) = BAD",
            "streetOf(0, 5) = BAD", "streetOf(0, " + LEAST + ") = BAD", "streetOf(0, " + GREATEST + ") = BAD"));
        Script.run("12: of one PERSON alone: nought", Script.behind(ALONE, "streetOf(0, 0) = 1", "streetOf(0, 1) = 0",
            "streetOf(0, 2) = 0", "streetOf(0, 3) = 0", "streetOf(0, 4) = 0"));
        Script.run("12: ties (1): none, the first, none again", Script.behind(TWELVE, "streetOf(0, 1) = 0", "tie(0, 11, 0, 9)",
            "streetOf(0, 1) = 1", "streetOf(0, 4) = 9", "tie(0, 0, 11, -1)", "streetOf(0, 1) = 0", "streetOf(0, 4) = 0"));
        List<String> musts = new ArrayList<>(List.of(TWELVE));
        for (int p = 0; p < 12; p++) {
            musts.add("must(0, " + p + ", true) = 0");
        }
        musts.add("streetOf(0, 3) = 4095");
        Script.run("12: all that MUST (3): all twelve", musts);
    }

    private static void personsTold() {
        Script.run("13: BAD: no such STREET", badStreets("personOf(#, 0, 0)", "personOf(0, 0, 0) = 2"));
        Script.run("13: BAD: no such PERSON", Script.behind(STAR, "personOf(0, 0, 0) = 2", "personOf(0, 3, 0) = 2",
            "personOf(0, -1, 0) = BAD", "personOf(0, 4, 0) = BAD", "personOf(0, 11, 0) = BAD", "personOf(0, 12, 0) = BAD",
            "personOf(0, " + LEAST + ", 0) = BAD", "personOf(0, " + GREATEST + ", 0) = BAD"));
        Script.run("13: BAD: what 0 to 5", Script.behind(STAR, "personOf(0, 0, 0) = 2", "personOf(0, 0, 5) = 8",
            "personOf(0, 0, -1) = BAD", "personOf(0, 0, 6) = BAD", "personOf(0, 0, " + LEAST + ") = BAD"));
        Script.run("13: of 12 PERSONS", Script.behind(TWELVE, "personOf(0, 11, 0) = 3", "personOf(0, 12, 0) = BAD"));
        Script.run("13: of one PERSON alone", Script.behind(ALONE, "personOf(0, 0, 0) = 0", "personOf(0, 0, 1) = 0",
            "personOf(0, 0, 2) = 0", "personOf(0, 0, 3) = 0", "personOf(0, 0, 4) = NONE", "personOf(0, 0, 5) = 0",
            "personOf(0, 1, 0) = BAD"));
        Script.run("13: those NEAR (2): not himself, and nobody", Script.behind(STAR, "personOf(0, 0, 2) = 14", "personOf(0, 3, 2) = 1",
            "tie(0, 0, 3, -1)", "personOf(0, 3, 2) = 0"));
        Script.run("13: the KIND of his WAY (4; NONE): each", Script.behind(STAR, "row(7, 0, 1)", "way(1, 1, 0)", "way(2, 2, 0)",
            "way(3, 3, 0)", "way(4, 4, 100)", "way(5, 5, 7)", "personOf(0, 1, 4) = NONE", "take(0, 1, 1) = 1", "personOf(0, 1, 4) = 1",
            "take(0, 1, 2) = 1", "personOf(0, 1, 4) = 2", "take(0, 1, 3) = 1", "personOf(0, 1, 4) = 3", "take(0, 1, 4) = 1",
            "personOf(0, 1, 4) = 4", "take(0, 1, 5) = 1", "personOf(0, 1, 4) = 5", "take(0, 1, -1) = 1", "personOf(0, 1, 4) = NONE"));
    }

    private static void greatestNear() {
        List<String> lines = new ArrayList<>(List.of(TWELVE));
        for (int a = 0; a < 12; a++) {
            for (int b = 0; b < a; b++) {
                lines.add("tie(0, " + a + ", " + b + ", 9) = NONE");
            }
        }
        lines.addAll(List.of("streetOf(0, 1) = 66", "streetOf(0, 4) = 594", "personOf(0, 0, 2) = 4094", "personOf(0, 11, 2) = 2047",
            "personOf(0, 11, 5) = 99", "personOf(0, 0, 5) = 99"));
        Script.run("13: all NEAR at the greatest PRICE", lines);
    }

    private static void altering() {
        Script.run("14: BAD: no such STREET", badStreets("alter(#, 0, 0, 1)", "alter(0, 0, 0, 1) = 2"));
        Script.run("14: BAD: no such PERSON", Script.behind(STAR, "alter(0, -1, 0, 1) = BAD", "alter(0, 4, 0, 1) = BAD",
            "alter(0, 12, 0, 1) = BAD", "alter(0, " + LEAST + ", 0, 1) = BAD", "alter(0, 3, 0, 1) = 2", "alter(0, 0, 0, 1) = 2"));
        Script.run("14: BAD: what 0, 1", Script.behind(STAR, "alter(0, 0, -1, 1) = BAD", "alter(0, 0, 2, 1) = BAD",
            "alter(0, 0, " + GREATEST + ", 1) = BAD", "alter(0, 0, 0, 1) = 2", "alter(0, 0, 1, 1) = 7"));
        Script.run("14: v (0 to 99): COST", Script.behind(STAR, "alter(0, 1, 0, 0) = 2", "alter(0, 1, 0, 99) = 0",
            "alter(0, 1, 0, -1) = BAD", "alter(0, 1, 0, 100) = BAD", "alter(0, 1, 0, " + LEAST + ") = BAD", "personOf(0, 1, 0) = 99",
            "personOf(0, 1, 1) = 7", "personOf(0, 0, 0) = 2"));
        Script.run("14: v (0 to 99): WORTH", Script.behind(STAR, "alter(0, 1, 1, 0) = 7", "alter(0, 1, 1, 99) = 0",
            "alter(0, 1, 1, -1) = BAD", "alter(0, 1, 1, 100) = BAD", "alter(0, 1, 1, " + GREATEST + ") = BAD", "personOf(0, 1, 1) = 99",
            "personOf(0, 1, 0) = 2", "personOf(0, 2, 1) = 7"));
        Script.run("14: of the twelfth PERSON", Script.behind(TWELVE, "alter(0, 11, 0, 5) = 3", "alter(0, 11, 1, 6) = 9",
            "alter(0, 12, 0, 5) = BAD", "alter(0, 11, 0, 5) = 5"));
    }

    private static void tying() {
        Script.run("15: BAD: no such STREET", badStreets("tie(#, 0, 1, 1)", "tie(0, 0, 1, 1) = 3"));
        Script.run("15: BAD: no such PERSON", Script.behind(STAR, "tie(0, -1, 1, 1) = BAD", "tie(0, 4, 1, 1) = BAD",
            "tie(0, 1, -1, 1) = BAD", "tie(0, 1, 4, 1) = BAD", "tie(0, 1, 12, -1) = BAD", "tie(0, " + LEAST + ", 1, -1) = BAD",
            "tie(0, 1, " + GREATEST + ", 1) = BAD", "tie(0, 3, 1, 1) = NONE"));
        Script.run("15: BAD: one and himself, too", Script.behind(STAR, "tie(0, 0, 0, 1) = BAD", "tie(0, 3, 3, 0) = BAD",
            "tie(0, 1, 1, -1) = BAD", "personOf(0, 1, 2) = 1"));
        Script.run("15: BAD: one and himself, alone", Script.behind(ALONE, "tie(0, 0, 0, 0) = BAD", "tie(0, 0, 1, 0) = BAD"));
        Script.run("15: a PRICE (0 to 9), or NONE", Script.behind(STAR, "tie(0, 1, 2, -2) = BAD", "tie(0, 1, 2, 10) = BAD",
            "tie(0, 1, 2, " + LEAST + ") = BAD", "tie(0, 0, 1, 10) = BAD", "tie(0, 0, 1, -2) = BAD", "tie(0, 1, 2, 9) = NONE",
            "tie(0, 1, 2, 0) = 9", "tie(0, 1, 2, -1) = 0", "tie(0, 1, 2, -1) = NONE"));
    }

    private static void tyingAhead() {
        Script.run("15: NONE: they weren't", Script.behind(STAR, "tie(0, 1, 2, -1) = NONE", "personOf(0, 1, 2) = 1", "streetOf(0, 1) = 3",
            "streetOf(0, 4) = 8", "status(12) = 0"));
        Script.run("15: the PRICE ahead: 0 is one", Script.behind(STAR, "tie(0, 2, 0, 4) = 0", "tie(0, 0, 2, 4) = 4",
            "personOf(0, 2, 5) = 4", "personOf(0, 0, 5) = 12", "streetOf(0, 4) = 12"));
        Script.run("15: not any more: no PRICE either", Script.behind(STAR, "tie(0, 3, 0, -1) = 5", "personOf(0, 3, 5) = 0",
            "personOf(0, 0, 5) = 3", "personOf(0, 0, 2) = 6", "personOf(0, 3, 2) = 0", "tie(0, 0, 3, 0) = NONE", "personOf(0, 3, 5) = 0",
            "tie(0, 0, 3, 9) = 0", "personOf(0, 3, 5) = 9"));
        Script.run("15: the last two of 12", Script.behind(TWELVE, "tie(0, 11, 10, 7) = NONE", "tie(0, 10, 11, -1) = 7",
            "tie(0, 12, 11, 7) = BAD", "tie(0, 11, 12, 7) = BAD"));
    }

    private static void having() {
        Script.run("16: BAD: no such STREET", badStreets("must(#, 0, true)", "must(0, 0, true) = 0"));
        Script.run("16: BAD: no such PERSON", Script.behind(STAR, "must(0, -1, true) = BAD", "must(0, 4, true) = BAD",
            "must(0, 12, true) = BAD", "must(0, 32, true) = BAD", "must(0, 34, false) = BAD", "must(0, " + LEAST + ", true) = BAD",
            "must(0, " + GREATEST + ", false) = BAD", "streetOf(0, 3) = 4", "must(0, 3, true) = 0", "must(0, 0, true) = 0",
            "streetOf(0, 3) = 13"));
        Script.run("16: 1 if he had to, 0", Script.behind(STAR, "must(0, 2, true) = 1", "must(0, 2, false) = 1", "must(0, 2, false) = 0",
            "personOf(0, 2, 3) = 0", "must(0, 2, true) = 0", "personOf(0, 2, 3) = 1", "streetOf(0, 3) = 4"));
        Script.run("16: the twelfth PERSON", Script.behind(TWELVE, "must(0, 11, true) = 0", "must(0, 12, true) = BAD",
            "streetOf(0, 3) = 2048", "must(0, 11, false) = 1", "streetOf(0, 3) = 0"));
    }

    private static final String[] TAKERS = Script.behind(STAR, "row(0, 0, 3)", "row(1, 0, 0)", "way(2, 4, 301)", "way(7, 2, 0)");

    private static void taking() {
        Script.run("17: a WAY in a SHELF (NONE: none)", Script.behind(TAKERS, "take(0, 1, -1) = 1", "personOf(0, 1, 4) = NONE",
            "take(0, 1, 2) = 1", "personOf(0, 1, 4) = 4", "take(0, 1, -1) = 1", "personOf(0, 1, 4) = NONE", "status(12) = 0"));
        Script.run("17: the first PERSON, the last; the first SHELF, the last", Script.behind(STAR, "way(0, 1, 1)", "way(7, 3, 2)",
            "take(0, 0, 0) = 1", "take(0, 3, 7) = 1", "personOf(0, 0, 4) = 1", "personOf(0, 3, 4) = 3", "take(0, 0, 7) = 1",
            "personOf(0, 0, 4) = 3"));
        Script.run("17: he has it when the SHELF holds something else", Script.behind(STAR, "way(0, 4, 201)", "take(0, 1, 0) = 1",
            "way(0, 4, 200)", "doers(0, 1) = 6", "doers(0, 2) = 4", "row(0, 0, 1)", "doers(0, 1) = 6", "personOf(0, 1, 4) = 4"));
    }

    private static void takingRefused() {
        Script.run("17: BAD: no such STREET", badStreets("take(#, 0, -1)", "take(0, 0, -1) = 1"));
        Script.run("17: BAD: no such PERSON", Script.behind(TAKERS, "take(0, -1, 2) = BAD", "take(0, 4, 2) = BAD", "take(0, 12, 2) = BAD",
            "take(0, 4, -1) = BAD", "take(0, -1, -1) = BAD", "take(0, " + LEAST + ", 2) = BAD"));
        Script.run("17: BAD: no such SHELF", Script.behind(TAKERS, "take(0, 0, 2) = 1", "take(0, 0, -2) = BAD", "take(0, 0, 8) = BAD",
            "take(0, 0, " + LEAST + ") = BAD", "take(0, 0, " + GREATEST + ") = BAD", "personOf(0, 0, 4) = 4"));
        Script.run("17: OTHER; NOTHING", Script.behind(TAKERS, "take(0, 0, 2) = 1", "take(0, 0, 0) = OTHER", "take(0, 0, 1) = OTHER",
            "take(0, 0, 3) = NOTHING", "personOf(0, 0, 4) = 4"));
        Script.run("17: BAD ahead of OTHER and NOTHING", Script.behind(TAKERS, "take(1, 0, 0) = BAD", "take(-1, 0, 3) = BAD",
            "take(0, 4, 0) = BAD", "take(0, -1, 3) = BAD"));
    }

    private static void coming() {
        Script.run("18: COST and WORTH (0 to 99)", Script.behind(STAR, "come(0, 0, 0, 99) = 4", "personOf(0, 4, 0) = 0",
            "personOf(0, 4, 1) = 99", "come(0, 0, 99, 0) = 5", "personOf(0, 5, 0) = 99", "personOf(0, 5, 1) = 0",
            "come(0, 0, -1, 0) = BAD", "come(0, 0, 100, 0) = BAD", "come(0, 0, 0, -1) = BAD", "come(0, 0, 0, 100) = BAD",
            "come(0, 0, " + LEAST + ", 0) = BAD", "come(0, 0, 0, " + GREATEST + ") = BAD", "streetOf(0, 0) = 6"));
        Script.run("18: NEAR a set of others: none, all", Script.behind(STAR, "come(0, 0, 1, 1) = 4", "personOf(0, 4, 2) = 0",
            "come(0, 31, 1, 1) = 5", "personOf(0, 5, 2) = 31", "personOf(0, 4, 2) = 32", "personOf(0, 0, 2) = 46", "streetOf(0, 1) = 8"));
        Script.run("18: NEAR a set of others (at PRICE 0)", Script.behind(STAR, "come(0, 9, 1, 1) = 4", "personOf(0, 4, 5) = 0",
            "personOf(0, 0, 5) = 8", "streetOf(0, 4) = 8", "tie(0, 4, 0, 0) = 0", "tie(0, 3, 4, 0) = 0", "tie(0, 4, 1, 0) = NONE"));
        Script.run("18: who needn't and has no WAY", Script.behind(STAR, "come(0, 0, 1, 1) = 4", "personOf(0, 4, 3) = 0",
            "personOf(0, 4, 4) = NONE", "streetOf(0, 3) = 4", "doers(0, 0) = 4"));
        Script.run("18: who is gone by back() has left nothing", "read 'people 2;all' = 0", "image()", "come(0, 3, 5, 6) = 2",
            "tie(0, 2, 0, 7)", "must(0, 2, true)", "way(0, 1, 1)", "take(0, 2, 0)", "back() = 1", "come(0, 0, 1, 2) = 2",
            "personOf(0, 2, 0) = 1", "personOf(0, 2, 1) = 2", "personOf(0, 2, 2) = 0", "personOf(0, 2, 3) = 0", "personOf(0, 2, 4) = NONE",
            "personOf(0, 2, 5) = 0", "personOf(0, 0, 5) = 0", "personOf(0, 0, 2) = 2");
    }

    private static void comingTwelfth() {
        List<String> lines = new ArrayList<>(List.of(ALONE));
        for (int p = 1; p < 12; p++) {
            lines.add("come(0, " + ((1 << p) - 1) + ", 1, 2) = " + p);
        }
        lines.addAll(List.of("personOf(0, 11, 2) = 2047", "personOf(0, 0, 2) = 4094", "streetOf(0, 0) = 12", "streetOf(0, 1) = 66",
            "come(0, 0, 1, 2) = FULL", "come(0, 4095, 1, 2) = FULL", "streetOf(0, 0) = 12"));
        Script.run("18: FULL: 12 are there", lines);
        Script.run("18: FULL: 12 were there at first", Script.behind(TWELVE, "come(0, 0, 0, 0) = FULL", "come(0, 4095, 99, 99) = FULL"));
        Script.run("18: BAD ahead of FULL", Script.behind(TWELVE, "come(0, 4096, 1, 1) = BAD", "come(0, -1, 1, 1) = BAD",
            "come(0, 0, 100, 1) = BAD", "come(0, 0, -1, 1) = BAD", "come(0, 0, 1, 100) = BAD", "come(0, 0, 1, -1) = BAD",
            "come(1, 0, 1, 1) = BAD", "come(0, 0, 1, 1) = FULL"));
    }

    private static void comingRefused() {
        Script.run("18: BAD: no such STREET", badStreets("come(#, 0, 1, 1)", "come(0, 0, 1, 1) = 4"));
        Script.run("18: BAD: a set has PERSONS alone: not himself", Script.behind(STAR, "come(0, 16, 1, 1) = BAD",
            "come(0, 17, 1, 1) = BAD", "come(0, 32, 1, 1) = BAD", "come(0, -1, 1, 1) = BAD", "come(0, " + LEAST + ", 1, 1) = BAD",
            "come(0, " + GREATEST + ", 1, 1) = BAD", "streetOf(0, 0) = 4", "come(0, 15, 1, 1) = 4", "come(0, 16, 1, 1) = 5"));
    }
}
