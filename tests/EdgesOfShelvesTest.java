import java.util.ArrayList;
import java.util.List;

/** The edges of promises 1 to 8: a new object, ROWS, WAYS. Each run bears the words that it holds to. */
public final class EdgesOfShelvesTest {
    private static final String LEAST = "-2147483648";
    private static final String GREATEST = "2147483647";

    public static void main(String[] args) {
        aNewObject();
        rows();
        setting();
        whatASortKeeps();
        copying();
        copyingRefused();
        copyingAsTheyWere();
        elements();
        holding();
        waysAndTheirNumbers();
        waysByTurn();
        waysByARow();
        saying();
        sayingOfKinds();
        // behind all the others: what they did has stayed in none of their objects' places
        aNewObject();
        Due.end();
    }

    private static void aNewObject() {
        Script.run("1: No STREETS", "status(0) = 0", "streetOf(0, 0) = BAD", "personOf(0, 0, 0) = BAD",
            "count(0) = BAD", "light(0, 1) = BAD", "begin(0) = BAD");
        List<String> shelves = new ArrayList<>();
        for (int s = 0; s < 8; s++) {
            shelves.add("holds(" + s + ") = NONE");
            shelves.add("element(" + s + ", 0) = 0");
            shelves.add("set(" + s + ", 0, 1) = NOTHING");
            shelves.add("says(" + s + ", 0) = NOTHING");
        }
        shelves.add("status(3) = 0");
        Script.run("1: SHELVES hold NOTHING", shelves);
        Script.run("1: THE TAPE is empty", "status(1) = 0", "wipe() = 0", "street() = FAULT 0");
        Script.run("SEED (1 at first)", "status(2) = 1", "seed(1) = 1");
        Script.run("KNOWN .. 0 at first", "know(0, 1) = 0", "know(1, 1) = 0", "know(2, 1) = 0", "know(3, 1) = 0",
            "know(4, 1) = 0", "know(5, 1) = 0");
        Script.run("REFUSALS: none at first", "status(12) = 0", "status(13) = 0", "status(14) = 0", "status(15) = 0",
            "status(16) = 0");
        Script.run("53: nothing was kept", "back() = STATE");
        Script.run("50, 51: no SEARCH is under way", "step(1) = STATE", "search(0) = STATE", "search(4) = STATE");
    }

    private static void rows() {
        Script.run("2: SHELVES 0 to 7", "row(0, 2, 1) = 1", "row(7, 2, 1) = 1", "row(-1, 2, 1) = BAD",
            "row(8, 2, 1) = BAD", "row(" + LEAST + ", 2, 1) = BAD", "row(" + GREATEST + ", 2, 1) = BAD", "status(3) = 2");
        Script.run("2: a SORT (0 .. 4)", "row(0, 0, 1) = 1", "row(1, 4, 1) = 1", "row(2, -1, 1) = BAD",
            "row(2, 5, 1) = BAD", "holds(0) = 0", "holds(1) = 4", "holds(2) = NONE");
        Script.run("2: 0 to 40 elements", "row(0, 3, 0) = 1", "row(1, 3, 40) = 1", "row(2, 3, -1) = BAD",
            "row(2, 3, 41) = BAD", "row(2, 3, " + LEAST + ") = BAD", "row(2, 3, " + GREATEST + ") = BAD", "holds(2) = NONE");
        Script.run("2: a ROW of 0 elements", "row(0, 3, 0) = 1", "holds(0) = 3", "status(3) = 1", "element(0, 0) = 0",
            "set(0, 0, 5) = BAD", "set(0, -1, 5) = BAD");
        Script.run("2: a ROW of 40 elements", "row(0, 3, 40) = 1", "set(0, 39, 5) = 1", "set(0, 40, 5) = BAD",
            "element(0, 39) = 5", "element(0, 40) = 0");
        Script.run("2: (0, or not so, at first)", "row(0, 3, 2) = 1", "set(0, 0, 5) = 1", "set(0, 1, 6) = 1",
            "row(0, 4, 3) = 1", "element(0, 0) = 0", "element(0, 1) = 0", "element(0, 2) = 0");
        Script.run("2: a new ROW where a longer one was", "row(0, 3, 40) = 1", "set(0, 39, 5) = 1", "row(0, 3, 39) = 1",
            "element(0, 39) = 0", "set(0, 39, 5) = BAD", "row(0, 3, 40) = 1", "element(0, 39) = 0");
        Script.run("2: a new ROW where a WAY was", "way(0, 2, 700) = 1", "row(0, 1, 2) = 1", "holds(0) = 1",
            "says(0, 2) = OTHER", "set(0, 1, 7) = 1");
        Script.run("2: refused, a ROW stays as it is", "row(0, 2, 2) = 1", "set(0, 1, 7) = 1", "row(0, 5, 1) = BAD",
            "row(0, 1, 41) = BAD", "row(8, 1, 1) = BAD", "element(0, 1) = 7", "holds(0) = 2");
    }

    private static void setting() {
        String[] scene = {"row(0, 2, 2)", "way(1, 1, 1)", "row(7, 2, 1)"};
        Script.run("3: BAD SHELF", Script.behind(scene, "set(-1, 0, 1) = BAD", "set(8, 0, 1) = BAD", "set(0, 0, 1) = 1",
            "set(7, 0, 1) = 1", "set(" + LEAST + ", 0, 1) = BAD"));
        Script.run("3: OTHER, ahead of BAD i", Script.behind(scene, "set(1, 0, 1) = OTHER", "set(1, -1, 1) = OTHER",
            "set(1, 40, 1) = OTHER"));
        Script.run("3: NOTHING, ahead of BAD i", Script.behind(scene, "set(2, 0, 1) = NOTHING", "set(2, -1, 1) = NOTHING",
            "set(2, 40, 1) = NOTHING"));
        Script.run("3: BAD i", Script.behind(scene, "set(0, 0, 1) = 1", "set(0, 1, 1) = 1", "set(0, -1, 1) = BAD",
            "set(0, 2, 1) = BAD", "set(0, 39, 1) = BAD", "set(0, 40, 1) = BAD", "set(0, " + LEAST + ", 1) = BAD",
            "set(0, " + GREATEST + ", 1) = BAD", "set(7, 1, 1) = BAD"));
    }

    private static void keeps(int sort, String... puts) {
        List<String> lines = new ArrayList<>();
        lines.add("row(0, " + sort + ", 2) = 1");
        for (String put : puts) {
            lines.add("set(0, 1, " + put.substring(0, put.indexOf(' ')) + ") = 1");
            lines.add("element(0, 1) = " + put.substring(put.lastIndexOf(' ') + 1));
            lines.add("element(0, 0) = 0");
        }
        Script.run("what is put in keeps its lowest bits, SORT " + sort, lines);
    }

    private static void whatASortKeeps() {
        keeps(0, "127 is 127", "128 is -128", "-128 is -128", "-129 is 127", "255 is -1", "256 is 0", "-1 is -1",
            "4294967295 is -1", "9223372036854775807 is -1", "-9223372036854775808 is 0");
        keeps(1, "32767 is 32767", "32768 is -32768", "-32768 is -32768", "-32769 is 32767", "65535 is -1", "65536 is 0",
            "255 is 255", "-9223372036854775808 is 0");
        keeps(2, "2147483647 is 2147483647", "2147483648 is -2147483648", "-2147483648 is -2147483648",
            "-2147483649 is 2147483647", "4294967295 is -1", "4294967296 is 0", "65535 is 65535");
        keeps(3, "9223372036854775807 is 9223372036854775807", "-9223372036854775808 is -9223372036854775808",
            "4294967296 is 4294967296", "-1 is -1");
        keeps(4, "0 is 0", "1 is 1", "-1 is 1", "2 is 1", "0 is 0", "256 is 1", "4294967296 is 1",
            "-9223372036854775808 is 1");
    }

    private static final String[] ROWS = {"row(0, 2, 3)", "set(0, 0, 1)", "set(0, 1, 2)", "set(0, 2, 3)", "row(1, 2, 2)",
        "set(1, 0, 7)", "set(1, 1, 8)", "row(2, 1, 3)", "way(3, 1, 1)", "row(4, 2, 0)", "way(6, 3, 4)"};

    private static void copying() {
        Script.run("4: from the first, to the last", Script.behind(ROWS, "copy(0, 1, 0, 0, 2) = 2", "element(1, 0) = 1",
            "element(1, 1) = 2", "copy(0, 1, 2, 1, 1) = 1", "element(1, 1) = 3", "element(1, 0) = 1"));
        Script.run("4: all of it", Script.behind(ROWS, "copy(1, 0, 0, 1, 2) = 2", "element(0, 0) = 1", "element(0, 1) = 7",
            "element(0, 2) = 8", "copy(0, 0, 0, 0, 3) = 3", "element(0, 2) = 8"));
        Script.run("4: n of 0", Script.behind(ROWS, "copy(0, 1, 0, 0, 0) = 0", "copy(0, 1, 3, 2, 0) = 0", "copy(4, 4, 0, 0, 0) = 0",
            "copy(4, 0, 0, 3, 0) = 0", "element(1, 0) = 7", "element(1, 1) = 8"));
        List<String> forty = new ArrayList<>(List.of("row(0, 3, 40)", "row(7, 3, 40)", "set(0, 0, 5)", "set(0, 39, 6)"));
        forty.add("copy(0, 7, 0, 0, 41) = BAD");
        forty.add("copy(0, 7, 0, 0, 40) = 40");
        forty.add("element(7, 0) = 5");
        forty.add("element(7, 39) = 6");
        forty.add("copy(0, 7, 39, 1, 1) = 1");
        forty.add("element(7, 1) = 6");
        forty.add("copy(0, 7, 1, 0, 40) = BAD");
        forty.add("copy(0, 7, 0, 1, 40) = BAD");
        Script.run("4: forty elements", forty);
    }

    private static void copyingRefused() {
        Script.run("4: BAD SHELVES, ahead of all", Script.behind(ROWS, "copy(-1, 0, 0, 0, 1) = BAD", "copy(8, 0, 0, 0, 1) = BAD",
            "copy(0, -1, 0, 0, 1) = BAD", "copy(0, 8, 0, 0, 1) = BAD", "copy(8, 3, 0, 0, 1) = BAD",
            "copy(3, 8, 0, 0, 1) = BAD", "copy(8, 5, 0, 0, 1) = BAD", "copy(5, -1, 0, 0, 1) = BAD"));
        Script.run("4: OTHER: a WAY", Script.behind(ROWS, "copy(3, 0, 0, 0, 1) = OTHER", "copy(0, 3, 0, 0, 1) = OTHER",
            "copy(3, 6, 0, 0, 1) = OTHER", "copy(3, 3, 0, 0, 1) = OTHER"));
        Script.run("4: OTHER ahead of NOTHING and of BAD the others", Script.behind(ROWS, "copy(3, 5, 0, 0, 1) = OTHER",
            "copy(5, 3, 0, 0, 1) = OTHER", "copy(3, 0, -1, 0, 1) = OTHER", "copy(0, 3, 0, 9, 1) = OTHER",
            "copy(0, 2, 0, 0, -1) = OTHER", "copy(2, 0, 9, 0, 1) = OTHER"));
        Script.run("4: also ROWS of two SORTS, if both hold something", Script.behind(ROWS, "copy(0, 2, 0, 0, 1) = OTHER",
            "copy(2, 0, 0, 0, 1) = OTHER", "copy(2, 4, 0, 0, 0) = OTHER", "copy(2, 5, 0, 0, 1) = NOTHING",
            "copy(5, 2, 0, 0, 1) = NOTHING"));
        Script.run("4: NOTHING, ahead of BAD the others", Script.behind(ROWS, "copy(5, 0, 0, 0, 1) = NOTHING",
            "copy(0, 5, 0, 0, 1) = NOTHING", "copy(5, 7, 0, 0, 1) = NOTHING", "copy(5, 5, 0, 0, 0) = NOTHING",
            "copy(5, 0, -1, 0, 1) = NOTHING", "copy(0, 5, 0, 0, 99) = NOTHING"));
        Script.run("4: BAD the others: places", Script.behind(ROWS, "copy(0, 1, -1, 0, 1) = BAD", "copy(0, 1, 0, -1, 1) = BAD",
            "copy(0, 1, 3, 0, 1) = BAD", "copy(0, 1, 0, 2, 1) = BAD", "copy(0, 1, 2, 0, 2) = BAD",
            "copy(0, 1, 0, 1, 2) = BAD", "copy(0, 1, 4, 0, 0) = BAD", "copy(0, 1, 0, 3, 0) = BAD",
            "copy(0, 1, -1, 0, 0) = BAD", "copy(0, 1, 0, -1, 0) = BAD", "copy(4, 0, 0, 0, 1) = BAD",
            "copy(0, 4, 0, 0, 1) = BAD"));
        Script.run("4: BAD the others: how many", Script.behind(ROWS, "copy(0, 1, 0, 0, -1) = BAD", "copy(0, 1, 1, 1, -1) = BAD",
            "copy(0, 1, 0, 0, 3) = BAD", "copy(1, 0, 0, 0, 3) = BAD", "copy(0, 1, 1, 1, " + GREATEST + ") = BAD",
            "copy(0, 1, " + GREATEST + ", 0, 1) = BAD", "copy(0, 1, 0, " + GREATEST + ", 1) = BAD",
            "copy(0, 1, 0, 0, " + LEAST + ") = BAD", "copy(0, 1, " + GREATEST + ", " + GREATEST + ", " + GREATEST + ") = BAD"));
    }

    private static void copyingAsTheyWere() {
        String[] five = {"row(0, 2, 5)", "set(0, 0, 1)", "set(0, 1, 2)", "set(0, 2, 3)", "set(0, 3, 4)", "set(0, 4, 5)"};
        Script.run("4: (as they were), up", Script.behind(five, "copy(0, 0, 0, 1, 4) = 4", "element(0, 0) = 1", "element(0, 1) = 1",
            "element(0, 2) = 2", "element(0, 3) = 3", "element(0, 4) = 4"));
        Script.run("4: (as they were), down", Script.behind(five, "copy(0, 0, 1, 0, 4) = 4", "element(0, 0) = 2", "element(0, 1) = 3",
            "element(0, 2) = 4", "element(0, 3) = 5", "element(0, 4) = 5"));
    }

    private static void elements() {
        Script.run("5: 0: none, no ROW (nothing is refused)", "row(0, 2, 2)", "set(0, 0, 8)", "set(0, 1, 9)", "way(1, 2, 7)",
            "element(0, 0) = 8", "element(0, 1) = 9", "element(0, 2) = 0", "element(0, -1) = 0", "element(0, 40) = 0",
            "element(0, " + LEAST + ") = 0", "element(0, " + GREATEST + ") = 0", "element(1, 0) = 0", "element(2, 0) = 0",
            "element(-1, 0) = 0", "element(8, 0) = 0", "element(" + LEAST + ", 0) = 0", "element(" + GREATEST + ", 0) = 0",
            "status(12) = 0", "status(13) = 0", "status(14) = 0", "status(15) = 0", "status(16) = 0");
    }

    private static void holding() {
        Script.run("6: NONE NOTHING, no SHELF", "holds(0) = NONE", "holds(7) = NONE", "holds(-1) = NONE", "holds(8) = NONE",
            "holds(" + LEAST + ") = NONE", "holds(" + GREATEST + ") = NONE", "status(12) = 0", "status(14) = 0");
        Script.run("6: 0 to 4 a ROW by its SORT", "row(0, 0, 1)", "row(1, 1, 1)", "row(2, 2, 1)", "row(3, 3, 1)",
            "row(7, 4, 1)", "holds(0) = 0", "holds(1) = 1", "holds(2) = 2", "holds(3) = 3", "holds(7) = 4");
        Script.run("6: 10 and the KIND of a WAY", "row(6, 0, 1)", "way(0, 1, 0)", "way(1, 2, 0)", "way(2, 3, 0)",
            "way(3, 4, 100)", "way(7, 5, 6)", "holds(0) = 11", "holds(1) = 12", "holds(2) = 13", "holds(3) = 14",
            "holds(7) = 15");
    }

    private static void waysAndTheirNumbers() {
        Script.run("7: BAD SHELF, ahead of OTHER, NOTHING of a", "row(1, 0, 1)", "way(2, 1, 1)", "way(0, 1, 1) = 1",
            "way(7, 1, 1) = 1", "way(-1, 1, 1) = BAD", "way(8, 1, 1) = BAD", "way(8, 5, 1) = BAD", "way(-1, 5, 2) = BAD",
            "way(8, 5, 3) = BAD");
        Script.run("7: a KIND (1 to 5)", "row(1, 0, 1)", "way(0, 1, 1) = 1", "way(0, 5, 1) = 1", "way(0, 0, 1) = BAD",
            "way(0, 6, 1) = BAD", "way(0, -1, 1) = BAD", "way(0, 0, 2) = BAD", "holds(0) = 15");
        Script.run("SURE: does (1), or not (0)", "way(0, 1, 1) = 1", "says(0, 1) = 1", "way(0, 1, 0) = 1", "says(0, 1) = 0",
            "way(0, 1, -1) = BAD", "way(0, 1, 2) = BAD", "says(0, 1) = 0");
        Script.run("LOTS: thousandths (0 to 1000)", "way(0, 2, 0) = 1", "says(0, 2) = 0", "way(0, 2, 1000) = 1",
            "says(0, 2) = 1000", "way(0, 2, -1) = BAD", "way(0, 2, 1001) = BAD", "says(0, 2) = 1000");
        Script.run("DEGREE: so many (0 to 11)", "way(0, 3, 0) = 1", "says(0, 3) = 0", "way(0, 3, 11) = 1", "says(0, 3) = 11",
            "way(0, 3, -1) = BAD", "way(0, 3, 12) = BAD", "says(0, 3) = 11");
    }

    private static void waysByTurn() {
        List<String> turns = new ArrayList<>();
        for (int k = 1; k <= 9; k++) {
            for (int r : new int[] {0, k - 1}) {
                turns.add("way(0, 4, " + (100 * k + r) + ") = 1");
                turns.add("says(0, 4) = " + (100 * k + r));
                turns.add("says(0, 3) = " + k);
            }
            turns.add("way(0, 4, " + (100 * k + k) + ") = BAD");
            turns.add("way(0, 4, " + (100 * k + 99) + ") = BAD");
        }
        Script.run("TURN: modulo k (1 to 9) r, r below k", turns);
        Script.run("TURN: no such k", "way(0, 4, 99) = BAD", "way(0, 4, 0) = BAD", "way(0, 4, 1) = BAD",
            "way(0, 4, -1) = BAD", "way(0, 4, -100) = BAD", "way(0, 4, 1000) = BAD", "way(0, 4, 1001) = BAD",
            "way(0, 4, 10000) = BAD", "way(0, 4, " + LEAST + ") = BAD", "way(0, 4, " + GREATEST + ") = BAD", "holds(0) = NONE");
    }

    private static void waysByARow() {
        Script.run("7: of ANSWER a SHELF with a ROW", "row(0, 0, 1)", "row(7, 0, 1)", "way(1, 5, 0) = 1", "way(1, 5, 7) = 1",
            "way(1, 5, -1) = BAD", "way(1, 5, 8) = BAD", "way(1, 5, 1) = OTHER", "way(1, 5, 2) = NOTHING", "holds(1) = 15");
        Script.run("7: of ANSWER the SHELF itself", "row(0, 0, 2)", "set(0, 1, 1)", "way(0, 5, 0) = 1", "holds(0) = 15",
            "says(0, 5) = 2", "element(0, 1) = 0", "way(0, 5, 0) = OTHER", "way(3, 5, 3) = NOTHING");
        Script.run("7: of SORTS that tell as they hold", "row(0, 0, 2)", "set(0, 0, 256)", "set(0, 1, 255)", "way(1, 5, 0) = 1",
            "says(1, 5) = 2", "row(0, 4, 2)", "set(0, 0, 256)", "way(1, 5, 0) = 1", "says(1, 5) = 1", "row(0, 3, 2)",
            "set(0, 1, -9223372036854775808)", "way(1, 5, 0) = 1", "says(1, 5) = 2");
        Script.run("7: a ROW of 0 elements", "row(0, 0, 0)", "way(1, 5, 0) = 1", "says(1, 5) = 0");
        Script.run("7: PERSON i if its element i is there", "row(0, 0, 12)", "set(0, 11, 1)", "set(0, 0, -1)",
            "way(1, 5, 0) = 1", "says(1, 5) = 2049", "row(0, 0, 11)", "set(0, 10, 1)", "way(1, 5, 0) = 1", "says(1, 5) = 1024");
        Script.run("7: (of PERSONS 0 to 11)", "row(0, 0, 40)", "set(0, 11, 1)", "set(0, 12, 1)", "set(0, 31, 1)",
            "set(0, 32, 1)", "set(0, 39, 1)", "way(1, 5, 0) = 1", "says(1, 5) = 2048");
        Script.run("7: a ROW (as it was)", "row(0, 0, 3)", "set(0, 0, 1)", "way(1, 5, 0) = 1", "set(0, 1, 1)",
            "says(1, 5) = 1", "row(0, 0, 3)", "says(1, 5) = 1", "way(0, 1, 1)", "says(1, 5) = 1");
    }

    private static final String[] KINDS = {"row(0, 0, 2)", "way(1, 1, 1)", "way(2, 2, 600)", "way(3, 3, 4)", "way(4, 4, 301)",
        "way(5, 5, 0)"};

    private static void saying() {
        Script.run("8: BAD SHELF, KIND", Script.behind(KINDS, "says(-1, 0) = BAD", "says(8, 0) = BAD", "says(1, -1) = BAD",
            "says(1, 6) = BAD", "says(1, 0) = 0", "says(5, 5) = 0"));
        Script.run("8: BAD ahead of OTHER and NOTHING", Script.behind(KINDS, "says(0, -1) = BAD", "says(0, 6) = BAD",
            "says(7, -1) = BAD", "says(7, 6) = BAD"));
        Script.run("8: OTHER: a ROW", Script.behind(KINDS, "says(0, 0) = OTHER", "says(0, 1) = OTHER", "says(0, 5) = OTHER"));
        Script.run("8: NOTHING", Script.behind(KINDS, "says(6, 0) = NOTHING", "says(6, 1) = NOTHING", "says(7, 5) = NOTHING"));
        Script.run("8: of LOTS 1 if its chance is above 500", "way(0, 2, 500)", "says(0, 1) = 0", "way(0, 2, 501)",
            "says(0, 1) = 1", "way(0, 2, 1000)", "says(0, 1) = 1", "way(0, 2, 0)", "says(0, 1) = 0");
    }

    /** Of each KIND what it says as each: NONE here where it is of no such KIND nor of one under it. */
    private static void sayingOfKinds() {
        int[][] says = {{0, 1, -1, -1, -1, -1}, {0, 1, 600, -1, -1, -1}, {0, -1, -1, 4, -1, -1}, {0, -1, -1, 3, 301, -1},
            {0, -1, -1, -1, -1, 0}};
        List<String> lines = new ArrayList<>(List.of(KINDS));
        for (int own = 1; own <= 5; own++) {
            for (int kind = 0; kind <= 5; kind++) {
                int due = says[own - 1][kind];
                lines.add("says(" + own + ", " + kind + ") = " + (due < 0 ? "OTHER" : due));
            }
        }
        Script.run("8: OTHER (also if it is of no such KIND nor of one under it)", lines);
    }
}
