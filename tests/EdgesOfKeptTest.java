import java.util.ArrayList;
import java.util.List;

/** The edges of promises 49 to 54: a SEARCH, what is kept, and status. */
public final class EdgesOfKeptTest {
    private static final String LEAST = "-2147483648";
    private static final String GREATEST = "2147483647";
    /** At REST: 0 alone (1), and the three others (14). */
    private static final String[] STAR = {"read 'people 4;cost 2;worth 7;tie 0 1;tie 0 2;tie 0 3' = 0"};
    private static final String[] TWELVE = {"read 'people 12;cost 3;worth 3' = 0"};
    private static final String[] CHASE = {"read 'people 2;more 5;one 0 cost 7 worth 9;one 1 cost 3 worth 2;all' = 0"};

    public static void main(String[] args) {
        beginning();
        stepping();
        steppingRefused();
        steppingToTheLast();
        searching();
        searchesAsTheStreetWas();
        nothingKept();
        keeping();
        notKept();
        keepingSearches();
        keepingAgain();
        keepingNothing();
        statuses();
        refusals();
        Due.end();
    }

    // ---- 49 to 51

    private static void beginning() {
        Script.run("49: BAD: no such STREET", Script.behind(STAR, "begin(0) = 16", "step(3)", "begin(-1) = BAD", "begin(1) = BAD", "begin(4) = BAD",
            "begin(" + LEAST + ") = BAD", "begin(" + GREATEST + ") = BAD", "search(1) = 3", "search(2) = 1"));
        Script.run("49: how many sets there are: of 1, of 12", "read 'people 1' = 0", "read 'people 12' = 1", "begin(0) = 2", "begin(1) = 4096");
        Script.run("49: from set 0 on (another one is given up)", Script.behind(STAR, "read 'people 2' = 1", "begin(0) = 16", "step(5) = 1", "begin(1) = 4",
            "search(0) = 1", "search(1) = 0", "search(2) = 0", "search(3) = NONE", "search(4) = 0", "begin(1) = 4", "step(1) = 1", "begin(0) = 16",
            "search(0) = 0", "search(1) = 0", "search(3) = NONE"));
    }

    private static void stepping() {
        Script.run("50: BAD: n (1 to 999)", Script.behind(TWELVE, "begin(0) = 4096", "step(0) = BAD", "step(1000) = BAD", "step(-1) = BAD",
            "step(" + LEAST + ") = BAD", "step(" + GREATEST + ") = BAD", "search(1) = 0", "step(1) = 1", "search(1) = 1", "step(999) = 999",
            "search(1) = 1000"));
    }

    private static void steppingRefused() {
        Script.run("50: STATE: none is under way", Script.behind(STAR, "step(1) = STATE", "step(999) = STATE"));
        Script.run("50: STATE: it is done", Script.behind(STAR, "begin(0)", "step(16) = 2", "step(1) = STATE", "step(999) = STATE", "search(4) = 1"));
        Script.run("50: BAD ahead of STATE", Script.behind(STAR, "step(0) = BAD", "step(1000) = BAD", "begin(0)", "step(99)", "step(0) = BAD",
            "step(1000) = BAD", "step(-1) = BAD", "step(1) = STATE"));
    }

    private static void steppingToTheLast() {
        Script.run("50: till the last: one short, then one", Script.behind(STAR, "begin(0)", "step(15) = 2", "search(4) = 0", "search(1) = 15", "step(1) = 0",
            "search(4) = 1", "search(1) = 16"));
        Script.run("50: till the last: just so many", Script.behind(STAR, "begin(0)", "step(16) = 2", "search(4) = 1", "search(1) = 16"));
        Script.run("50: till the last: more", Script.behind(STAR, "begin(0)", "step(17) = 2", "search(4) = 1", "search(1) = 16"));
        Script.run("50: till the last of 4096", Script.behind(TWELVE, "begin(0)", "step(999) = 999", "step(999) = 999", "step(999) = 999",
            "step(999) = 999", "search(1) = 3996", "step(99) = 99", "search(4) = 0", "step(999) = 1", "search(4) = 1", "search(1) = 4096",
            "search(2) = 4096", "search(3) = 4095", "step(1) = STATE"));
        Script.run("50: how many of them are RESTS: of these alone", Script.behind(STAR, "begin(0)", "step(1) = 0", "step(1) = 1", "step(12) = 0",
            "step(1) = 1", "step(1) = 0"));
    }

    private static void searching() {
        Script.run("51: STATE: none", Script.behind(STAR, "search(0) = STATE", "search(1) = STATE", "search(2) = STATE", "search(3) = STATE",
            "search(4) = STATE"));
        Script.run("51: BAD: what 0 to 4, ahead of STATE", Script.behind(STAR, "search(-1) = BAD", "search(5) = BAD", "search(" + LEAST + ") = BAD",
            "begin(0)", "search(-1) = BAD", "search(5) = BAD", "search(" + GREATEST + ") = BAD", "search(0) = 0", "search(4) = 0"));
        Script.run("51: the last of these (3; NONE)", Script.behind(STAR, "begin(0)", "search(3) = NONE", "step(1)", "search(3) = NONE", "step(1)",
            "search(3) = 1", "step(12)", "search(3) = 1", "step(1)", "search(3) = 14", "step(1)", "search(3) = 14"));
        Script.run("51: no REST at all", Script.behind(CHASE, "begin(0) = 4", "step(999) = 0", "search(2) = 0", "search(3) = NONE", "search(4) = 1"));
        Script.run("51: the empty set is a REST", "read 'people 2;cost 1' = 0", "begin(0)", "step(1) = 1", "search(3) = 0", "search(2) = 1");
        Script.run("51: STREET (0): the fourth", "read 'people 1' = 0", "read 'people 1' = 1", "read 'people 1' = 2", "read 'people 3' = 3", "begin(3) = 8",
            "search(0) = 3");
    }

    private static void searchesAsTheStreetWas() {
        Script.run("49: (as it is now): another COST", Script.behind(STAR, "begin(0)", "alter(0, 0, 0, 99)", "step(99) = 2", "begin(0)", "step(99) = 1"));
        Script.run("49: (as it is now): another tie", Script.behind(STAR, "begin(0)", "tie(0, 0, 1, -1)", "step(99) = 2", "search(3) = 14", "begin(0)",
            "step(99) = 2", "search(3) = 14", "rest(0, 0) = 3"));
        Script.run("49: (as it is now): one that MUST", Script.behind(STAR, "begin(0)", "step(1)", "must(0, 1, true)", "step(99) = 2", "begin(0)",
            "step(99) = 1"));
        Script.run("49: (as it is now): one more", Script.behind(STAR, "begin(0) = 16", "come(0, 0, 1, 2) = 4", "step(99) = 2", "search(1) = 16",
            "search(4) = 1", "begin(0) = 32", "step(99) = 2", "search(3) = 30"));
    }

    // ---- 52 and 53

    private static void nothingKept() {
        Script.run("53: STATE: nothing was", Script.behind(STAR, "back() = STATE", "back() = STATE", "image() = 1", "back() = 1", "status(15) = 2"));
    }

    private static void keeping() {
        Script.run("52: COST, WORTH", Script.behind(STAR, "image() = 1", "alter(0, 0, 0, 99)", "alter(0, 3, 1, 0)", "back() = 1",
            "personOf(0, 0, 0) = 2", "personOf(0, 3, 1) = 7"));
        Script.run("52: ties, PRICES", Script.behind(STAR, "image() = 1", "tie(0, 0, 1, 9)", "tie(0, 0, 2, -1)", "tie(0, 1, 2, 3)", "back() = 1",
            "tie(0, 0, 1, 0) = 0", "tie(0, 0, 2, 0) = 0", "tie(0, 1, 2, -1) = NONE", "streetOf(0, 4) = 0", "personOf(0, 0, 5) = 0"));
        Script.run("52: those that MUST", Script.behind(STAR, "must(0, 3, true)", "image() = 1", "must(0, 3, false)", "must(0, 0, true)", "back() = 1",
            "streetOf(0, 3) = 8"));
        Script.run("52: WAYS that they have", Script.behind(STAR, "way(0, 2, 300)", "way(1, 2, 400)", "take(0, 0, 0)", "image() = 1", "take(0, 0, 1)",
            "take(0, 1, 1)", "light(0, 1) = 360000", "back() = 1", "light(0, 1) = 700000", "personOf(0, 1, 4) = NONE"));
        Script.run("52: one more PERSON", Script.behind(STAR, "image() = 1", "come(0, 15, 1, 1)", "back() = 1", "streetOf(0, 0) = 4",
            "personOf(0, 0, 2) = 14", "total(0, 16) = BAD"));
        Script.run("52: one more STREET", Script.behind(STAR, "image() = 1", "read 'people 9' = 1", "back() = 1", "status(0) = 1", "streetOf(1, 0) = BAD",
            "read 'people 3' = 1", "streetOf(1, 0) = 3"));
        Script.run("52: MORE of a STREET whose number another bears then", "read 'people 2' = 0", "image() = 1", "read 'people 3;more 7' = 1", "back() = 1",
            "read 'people 4' = 1", "streetOf(1, 2) = 0", "streetOf(1, 0) = 4", "image() = 1", "back() = 1", "streetOf(1, 0) = 4", "streetOf(1, 2) = 0");
        Script.run("52: all four STREETS", "read 'people 1;cost 1' = 0", "read 'people 2;cost 2' = 1", "read 'people 3;cost 3' = 2",
            "read 'people 4;cost 4;more 5' = 3", "image() = 1", "alter(0, 0, 0, 9)", "alter(1, 1, 0, 9)", "alter(2, 2, 0, 9)", "alter(3, 3, 0, 9)",
            "back() = 1", "personOf(0, 0, 0) = 1", "personOf(1, 1, 0) = 2", "personOf(2, 2, 0) = 3", "personOf(3, 3, 0) = 4", "streetOf(3, 2) = 5");
        Script.run("52: all of twelve PERSONS", "read 'people 12;ring;one 11 cost 4 worth 5;tie 11 9 price 6;tie 10 11 price 7;must 10' = 0", "way(0, 2, 300)",
            "way(1, 3, 0)", "take(0, 11, 0)", "image() = 1", "alter(0, 11, 0, 9)", "alter(0, 11, 1, 9)", "tie(0, 11, 9, 8)", "tie(0, 11, 8, 7)",
            "tie(0, 11, 10, 2)", "tie(0, 11, 0, -1)", "must(0, 10, false)", "take(0, 11, 1)", "take(0, 9, 0)", "back() = 1", "personOf(0, 11, 0) = 4",
            "personOf(0, 11, 1) = 5", "personOf(0, 11, 2) = 1537", "personOf(0, 9, 2) = 3328", "personOf(0, 11, 5) = 13", "personOf(0, 9, 5) = 6",
            "personOf(0, 8, 5) = 0", "personOf(0, 11, 4) = 2", "personOf(0, 9, 4) = NONE", "light(0, 1) = 0", "must(0, 10, false) = 1",
            "light(0, 1) = 700000", "tie(0, 9, 11, 5) = 6", "tie(0, 11, 9, 0) = 5", "tie(0, 11, 10, 0) = 7", "tie(0, 8, 11, 0) = NONE",
            "tie(0, 11, 0, 0) = 0", "personOf(0, 11, 5) = 0", "personOf(0, 10, 5) = 0", "personOf(0, 9, 5) = 0");
        Script.run("52: KNOWN, SEED", "know(0, 3)", "know(5, 20)", "seed(77)", "image() = 1", "know(0, 4)", "know(5, 1)", "know(2, 2)", "seed(78)",
            "back() = 1", "status(2) = 77", "know(0, 0) = 3", "know(5, 0) = 20", "know(2, 0) = 0");
        Script.run("52: the SEED of DRAWS", Script.behind(STAR, "way(0, 2, 500)", "take(0, 0, 0)", "image() = 1", "doers(0, 0) = 0",
            "status(2) = 1103527590", "back() = 1", "status(2) = 1"));
    }

    private static void notKept() {
        Script.run("52: but THE TAPE", Script.behind(STAR, "tape 'people'", "image() = 1", "tape ' 3'", "back() = 1", "status(1) = 8", "street() = 1",
            "streetOf(1, 0) = 3", "back() = 1", "status(1) = 0"));
        Script.run("52: but SHELVES", Script.behind(STAR, "row(0, 2, 2)", "set(0, 0, 5)", "way(1, 2, 5)", "image() = 1", "set(0, 0, 6)", "way(1, 2, 7)",
            "row(7, 0, 1)", "back() = 1", "element(0, 0) = 6", "says(1, 2) = 7", "holds(7) = 0", "status(3) = 3"));
        Script.run("52: but status(): how many REFUSALS", Script.behind(STAR, "count(1) = BAD", "image() = 1", "count(1) = BAD", "says(0, 1) = NOTHING",
            "back() = 1", "status(12) = 2", "status(14) = 1", "status(15) = 0"));
    }

    private static void keepingSearches() {
        Script.run("52: a SEARCH that is under way", Script.behind(STAR, "begin(0)", "step(3) = 1", "image() = 1", "step(99) = 1", "back() = 1",
            "search(0) = 0", "search(1) = 3", "search(2) = 1", "search(3) = 1", "search(4) = 0", "step(99) = 1", "search(3) = 14"));
        Script.run("52: a SEARCH of a STREET as it was", Script.behind(STAR, "begin(0)", "image() = 1", "alter(0, 0, 0, 99)", "begin(0)", "step(99) = 1",
            "back() = 1", "step(99) = 2", "personOf(0, 0, 0) = 2"));
        Script.run("52: a SEARCH that is done", Script.behind(STAR, "begin(0)", "step(16)", "image() = 1", "begin(0)", "back() = 1", "step(1) = STATE",
            "search(4) = 1"));
        Script.run("52: no SEARCH", Script.behind(STAR, "image() = 1", "begin(0)", "step(3)", "back() = 1", "step(1) = STATE", "search(0) = STATE"));
        Script.run("52: a SEARCH of one STREET, and then of another", Script.behind(STAR, "read 'people 2' = 1", "begin(1) = 4", "step(2) = 2",
            "image() = 1", "begin(0) = 16", "back() = 1", "search(0) = 1", "search(1) = 2", "step(99) = 2", "search(4) = 1"));
        Script.run("53: a SEARCH of a STREET that is gone is gone", Script.behind(STAR, "image() = 1", "read 'people 2' = 1", "begin(1)", "back() = 1",
            "search(0) = STATE"));
    }

    private static void keepingAgain() {
        Script.run("53: as it was kept: more than once", Script.behind(STAR, "image() = 1", "alter(0, 0, 0, 9)", "back() = 1", "alter(0, 0, 0, 8)", "back() = 1",
            "personOf(0, 0, 0) = 2", "back() = 1", "personOf(0, 0, 0) = 2"));
        Script.run("53: as it was kept: the last time", Script.behind(STAR, "image() = 1", "alter(0, 0, 0, 9)", "image() = 1", "alter(0, 0, 0, 8)",
            "back() = 1", "personOf(0, 0, 0) = 9", "back() = 1", "personOf(0, 0, 0) = 9"));
        Script.run("53: what is kept doesn't change by what comes then", Script.behind(STAR, "image() = 1", "back() = 1", "alter(0, 0, 0, 9)",
            "tie(0, 0, 1, 9)", "must(0, 0, true)", "know(1, 1)", "back() = 1", "personOf(0, 0, 0) = 2", "streetOf(0, 4) = 0", "streetOf(0, 3) = 0",
            "know(1, 0) = 0"));
    }

    private static void keepingNothing() {
        Script.run("52: of a new object", "image() = 1", "read 'people 2' = 0", "know(0, 1)", "seed(9)", "back() = 1", "status(0) = 0", "status(2) = 1",
            "streetOf(0, 0) = BAD", "know(0, 0) = 0", "read 'people 3' = 0", "streetOf(0, 0) = 3", "personOf(0, 2, 0) = 0");
    }

    // ---- 54

    private static void statuses() {
        Script.run("54: NONE another what", Script.behind(STAR, "status(-1) = NONE", "status(4) = NONE", "status(11) = NONE", "status(17) = NONE",
            "status(" + LEAST + ") = NONE", "status(" + GREATEST + ") = NONE", "status(5) = NONE", "status(-12) = NONE", "status(12) = 0"));
        Script.run("54: STREETS (0)", "status(0) = 0", "read 'people 1' = 0", "status(0) = 1", "read 'people 0' = FAULT 7", "status(0) = 1",
            "read 'people 1' = 1", "read 'people 1' = 2", "read 'people 1' = 3", "status(0) = 4", "read 'people 1' = FULL", "status(0) = 4");
        Script.run("54: THE TAPE's size (1)", "status(1) = 0", "feed(0, 1)", "status(1) = 1", "feed(0, 4)", "status(1) = 5", "feed(0, 5) = BAD",
            "status(1) = 5", "wipe() = 5", "status(1) = 0");
        List<String> shelves = new ArrayList<>();
        for (int s = 0; s < 8; s++) {
            shelves.add(s % 2 == 0 ? "row(" + s + ", 0, 0)" : "way(" + s + ", 1, 0)");
            shelves.add("status(3) = " + (s + 1));
        }
        shelves.addAll(List.of("row(1, 0, 1)", "way(0, 1, 1)", "status(3) = 8", "row(8, 0, 1) = BAD", "status(3) = 8"));
        Script.run("54: SHELVES that hold something (3)", shelves);
    }

    private static void refusals() {
        List<String> lines = new ArrayList<>(List.of(STAR));
        lines.addAll(List.of("way(0, 1, 1)", "status(12) = 0", "count(9) = BAD", "status(12) = 1", "set(0, 0, 1) = OTHER", "status(13) = 1",
            "set(1, 0, 1) = NOTHING", "status(14) = 1", "step(1) = STATE", "status(15) = 1", "read 'people 1' = 1", "read 'people 1' = 2",
            "read 'people 1' = 3", "street() = FULL", "status(16) = 1", "total(9, 0) = BAD", "status(12) = 2", "gain(9, 0, 0) = BAD", "status(12) = 3",
            "status(13) = 1", "status(14) = 1", "status(15) = 1", "status(16) = 1"));
        Script.run("54: 12 to 16: REFUSALS -2 to -6", lines);
    }
}
