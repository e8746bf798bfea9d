import java.util.ArrayList;
import java.util.List;

/** The edges of promises 45 to 48: DOERS by WAYS, LIGHT, and the SEED. */
public final class EdgesOfDaysTest {
    private static final String LEAST = "-2147483648";
    private static final String GREATEST = "2147483647";
    private static final String[] STAR = {"read 'people 4;cost 3;worth 9;tie 0 1;tie 0 2;tie 0 3' = 0"};
    private static final String[] TWELVE = {"read 'people 12;cost 3;worth 9' = 0"};
    private static final String[] ALONE = {"read 'people 1' = 0"};

    public static void main(String[] args) {
        refused();
        days();
        withoutWays();
        sure();
        lots();
        degrees();
        turns();
        answers();
        musts();
        draws();
        drawsOfSeveral();
        wraps();
        hours();
        lightCut();
        lightOfKinds();
        lates();
        seeds();
        Due.end();
    }

    private static void refused() {
        String[] lot = Script.behind(STAR, "way(0, 2, 500)", "take(0, 1, 0)");
        for (String call : new String[] {"doers", "light", "late"}) {
            Script.run(call + ": BAD: no such STREET", Script.behind(lot, call + "(-1, 1) = BAD", call + "(1, 1) = BAD", call + "(4, 1) = BAD",
                call + "(" + LEAST + ", 1) = BAD", call + "(" + GREATEST + ", 1) = BAD", "status(2) = 1"));
        }
        Script.run("45: BAD: a DAY (0 to 999)", Script.behind(lot, "doers(0, -1) = BAD", "doers(0, 1000) = BAD", "doers(0, " + LEAST + ") = BAD",
            "doers(0, " + GREATEST + ") = BAD", "status(2) = 1", "doers(0, 0)", "doers(0, 999)", "status(12) = 4"));
        Script.run("46: BAD: an hour (1 to 99)", Script.behind(lot, "light(0, 0) = BAD", "light(0, 100) = BAD", "light(0, -1) = BAD",
            "light(0, " + LEAST + ") = BAD", "light(0, " + GREATEST + ") = BAD", "light(0, 1) = 500000", "light(0, 99) = 0"));
        Script.run("47: BAD: v (0 to 1000000)", Script.behind(lot, "late(0, -1) = BAD", "late(0, 1000001) = BAD", "late(0, " + LEAST + ") = BAD",
            "late(0, " + GREATEST + ") = BAD", "late(0, 0) = 20", "late(0, 1000000) = 1"));
    }

    // ---- 45

    private static void days() {
        Script.run("45: a DAY (0 to 999): the first, the last", Script.behind(ALONE, "way(0, 4, 200)", "take(0, 0, 0)", "doers(0, 0) = 1",
            "doers(0, 999) = 0", "doers(0, 998) = 1", "way(0, 4, 908)", "take(0, 0, 0)", "doers(0, 998) = 1", "doers(0, 999) = 0",
            "doers(0, 8) = 1", "doers(0, 0) = 0"));
    }

    private static void withoutWays() {
        Script.run("45: without WAYS nobody", Script.behind(TWELVE, "doers(0, 0) = 0", "doers(0, 999) = 0", "light(0, 99) = 1000000",
            "late(0, 999999) = NONE", "late(0, 1000000) = 1", "status(2) = 1"));
        Script.run("45: a WAY (NONE: none) any more", Script.behind(ALONE, "way(0, 1, 1)", "take(0, 0, 0)", "doers(0, 0) = 1", "take(0, 0, -1)",
            "doers(0, 0) = 0", "light(0, 1) = 1000000"));
    }

    private static void sure() {
        Script.run("SURE: does (1), or not (0)", Script.behind(TWELVE, "way(0, 1, 1)", "way(1, 1, 0)", "take(0, 0, 0)", "take(0, 1, 1)",
            "take(0, 11, 0)", "doers(0, 0) = 2049", "light(0, 1) = 0", "take(0, 0, 1)", "take(0, 11, 1)", "doers(0, 0) = 0", "light(0, 99) = 1000000",
            "status(2) = 1"));
    }

    /** By SEED 1 the first DRAW below 1000 is 838. */
    private static void lots() {
        Script.run("LOTS: a DRAW below 1000 that is below the chance", Script.behind(ALONE, "way(0, 2, 838)", "take(0, 0, 0)", "doers(0, 0) = 0",
            "status(2) = 1103527590", "seed(1)", "way(0, 2, 839)", "take(0, 0, 0)", "doers(0, 0) = 1", "seed(1)", "way(0, 2, 837)", "take(0, 0, 0)",
            "doers(0, 0) = 0"));
        Script.run("LOTS: a chance of 0, of 1000: there is a DRAW, too", Script.behind(ALONE, "way(0, 2, 0)", "take(0, 0, 0)", "doers(0, 0) = 0",
            "status(2) = 1103527590", "seed(1)", "way(0, 2, 1000)", "take(0, 0, 0)", "doers(0, 0) = 1", "status(2) = 1103527590"));
    }

    private static void degrees() {
        Script.run("DEGREE: if he has no more than so many (0 to 11) near", Script.behind(STAR, "way(0, 3, 0)", "way(1, 3, 1)", "way(2, 3, 2)",
            "way(3, 3, 3)", "take(0, 0, 2)", "doers(0, 0) = 0", "light(0, 1) = 1000000", "take(0, 0, 3)", "doers(0, 0) = 1", "light(0, 1) = 0",
            "take(0, 1, 0)", "doers(0, 0) = 1", "take(0, 1, 1)", "doers(0, 0) = 3", "tie(0, 1, 0, -1)", "take(0, 1, 0)", "doers(0, 0) = 3",
            "take(0, 0, 2)", "doers(0, 0) = 3", "tie(0, 1, 0, 5)", "doers(0, 0) = 0"));
        Script.run("DEGREE: of eleven", "read 'people 12;all' = 0", "way(0, 3, 10)", "take(0, 5, 0)", "doers(0, 0) = 0", "way(0, 3, 11)",
            "take(0, 5, 0)", "doers(0, 0) = 32");
    }

    private static void turns() {
        List<String> lines = new ArrayList<>(List.of(ALONE));
        for (int k = 1; k <= 9; k++) {
            lines.add("way(0, 4, " + (100 * k + k - 1) + ")");
            lines.add("take(0, 0, 0)");
            lines.add("doers(0, 0) = " + (k == 1 ? 1 : 0));
            lines.add("doers(0, " + (k - 1) + ") = 1");
            lines.add("doers(0, " + k + ") = " + (k == 1 ? 1 : 0));
            lines.add("doers(0, " + (10 * k - 1) + ") = 1");
            lines.add("late(0, 0) = " + (k == 1 ? 1 : k - 1));
        }
        Script.run("TURN: on DAYS that modulo k (1 to 9) are r: the greatest", lines);
        Script.run("TURN: r 0", Script.behind(ALONE, "way(0, 4, 300)", "take(0, 0, 0)", "doers(0, 0) = 1", "doers(0, 1) = 0", "doers(0, 2) = 0",
            "doers(0, 3) = 1", "doers(0, 999) = 1", "light(0, 2) = 1000000", "light(0, 3) = 0", "late(0, 999999) = 3"));
    }

    private static void answers() {
        String[] scene = Script.behind(STAR, "row(0, 0, 12)");
        Script.run("ANSWER: if he GAINS more by it", Script.behind(scene, "way(1, 5, 0)", "take(0, 1, 1)", "doers(0, 0) = 2", "light(0, 1) = 0",
            "alter(0, 1, 0, 9)", "doers(0, 0) = 0", "light(0, 1) = 1000000", "alter(0, 1, 0, 8)", "doers(0, 0) = 2"));
        Script.run("ANSWER: the others doing as a ROW tells, not he", Script.behind(scene, "set(0, 1, 1)", "way(1, 5, 0)", "take(0, 1, 1)",
            "doers(0, 0) = 2", "set(0, 0, -1)", "way(1, 5, 0)", "doers(0, 0) = 2", "take(0, 1, 1)", "doers(0, 0) = 0", "alter(0, 1, 0, 0)",
            "doers(0, 0) = 0"));
        Script.run("ANSWER: those that aren't NEAR", Script.behind(scene, "set(0, 2, 1)", "set(0, 3, 1)", "set(0, 11, 1)", "way(1, 5, 0)",
            "take(0, 1, 1)", "doers(0, 0) = 2", "tie(0, 1, 3, 0)", "doers(0, 0) = 0"));
        Script.run("ANSWER: by MORE", "read 'people 3;cost 3;worth 2;more 4;tie 0 1' = 0", "row(0, 0, 3)", "way(1, 5, 0)", "take(0, 0, 1)",
            "doers(0, 0) = 0", "set(0, 1, 1)", "way(1, 5, 0)", "take(0, 0, 1)", "doers(0, 0) = 1", "alter(0, 0, 0, 4)", "doers(0, 0) = 0");
        Script.run("ANSWER: a ROW of 0 elements", Script.behind(STAR, "row(0, 0, 0)", "way(1, 5, 0)", "take(0, 0, 1)", "take(0, 3, 1)", "doers(0, 0) = 9"));
    }

    private static void musts() {
        Script.run("45: all that MUST, by whatever WAY", Script.behind(STAR, "way(0, 1, 0)", "way(1, 4, 901)", "way(2, 3, 0)", "take(0, 0, 0)",
            "take(0, 1, 1)", "take(0, 2, 2)", "doers(0, 0) = 0", "must(0, 0, true)", "must(0, 1, true)", "must(0, 2, true)", "must(0, 3, true)",
            "doers(0, 0) = 15", "light(0, 1) = 0", "late(0, 0) = 1", "status(2) = 1"));
        Script.run("45: of LOTS (that needn't): one that MUST draws nothing", Script.behind(ALONE, "way(0, 2, 0)", "take(0, 0, 0)", "must(0, 0, true)",
            "doers(0, 0) = 1", "status(2) = 1", "light(0, 1) = 0", "must(0, 0, false)", "doers(0, 0) = 0", "status(2) = 1103527590",
            "light(0, 1) = 1000000"));
    }

    // ---- DRAWS

    private static int next(int seed) {
        return seed * 1103515245 + 12345;
    }

    private static void draws() {
        Script.run("46, 47: LIGHT draws nothing", Script.behind(ALONE, "way(0, 2, 1)", "take(0, 0, 0)", "light(0, 99) = 905643", "late(0, 999000) = 1",
            "status(2) = 1"));
        Script.run("a DRAW: times 1103515245, and 12345", Script.behind(ALONE, "way(0, 2, 500)", "take(0, 0, 0)", "seed(0)", "doers(0, 0) = 1",
            "status(2) = 12345", "doers(0, 0)", "status(2) = " + next(12345)));
    }

    /** Each PERSON's DRAW in order, of LOTS alone; the SEED is one by which some do and some don't. */
    private static void drawsOfSeveral() {
        List<String> lines = new ArrayList<>(List.of(TWELVE));
        lines.addAll(List.of("way(0, 2, 500)", "way(1, 1, 1)", "way(2, 4, 500)", "seed(-77)"));
        for (int p = 0; p < 12; p++) {
            lines.add("take(0, " + p + ", " + (p == 3 ? 1 : p == 7 ? 2 : 0) + ")");
        }
        int seed = -77;
        for (int day = 996; day < 1000; day++) {
            int due = 8;
            for (int p = 0; p < 12; p++) {
                if (p == 3 || p == 7) {
                    continue;
                }
                seed = next(seed);
                due |= (seed >>> 16) % 1000 < 500 ? 1 << p : 0;
            }
            lines.add("doers(0, " + day + ") = " + due);
            lines.add("status(2) = " + seed);
        }
        Script.run("a DRAW for each of LOTS, in order", lines);
    }

    /** (an int, wrapping), and its upper 16 bits, no sign: by such SEEDS an answer by a sign would be another. */
    private static void wraps() {
        for (int seed : new int[] {Integer.MIN_VALUE, Integer.MAX_VALUE, -1, 2, 65536, -65536, 1 << 30}) {
            int then = next(seed);
            int drawn = (then >>> 16) % 1000;
            Script.run("a DRAW wraps: SEED " + seed, Script.behind(ALONE, "seed(" + seed + ") = 1", "way(0, 2, " + drawn + ")", "take(0, 0, 0)",
                "doers(0, 0) = 0", "status(2) = " + then, "seed(" + seed + ") = " + then, "way(0, 2, " + (drawn + 1) + ")", "take(0, 0, 0)",
                "doers(0, 0) = 1"));
        }
        int below = 0;
        for (int seed = 0; seed < 9; seed++) {
            below += next(seed) < 0 ? 1 : 0;
        }
        Due.is("some SEEDS are below nought", below > 0 ? 1 : 0, 1);
    }

    // ---- 46 and 47

    private static void hours() {
        Script.run("LIGHT: behind hour 1, and the last", Script.behind(ALONE, "way(0, 2, 500)", "take(0, 0, 0)", "light(0, 1) = 500000",
            "light(0, 2) = 250000", "light(0, 19) = 1", "light(0, 20) = 0", "light(0, 99) = 0"));
        Script.run("LIGHT: a chance of 0, of 1000", Script.behind(ALONE, "way(0, 2, 0)", "take(0, 0, 0)", "light(0, 99) = 1000000", "way(0, 2, 1000)",
            "take(0, 0, 0)", "light(0, 1) = 0", "way(0, 2, 999)", "take(0, 0, 0)", "light(0, 1) = 1000", "light(0, 2) = 1", "light(0, 3) = 0"));
    }

    private static void lightCut() {
        Script.run("LIGHT: cut", Script.behind(ALONE, "way(0, 2, 333)", "take(0, 0, 0)", "light(0, 1) = 667000", "light(0, 2) = 444889",
            "light(0, 3) = 296740", "light(0, 4) = 197925"));
        // cut once an hour it were 440451 behind the second one
        Script.run("LIGHT: cut for each PERSON, in order", "read 'people 2' = 0", "way(0, 2, 333)", "way(1, 2, 5)", "take(0, 0, 0)", "take(0, 1, 1)",
            "light(0, 1) = 663665", "light(0, 2) = 440450", "light(0, 3) = 292311", "take(0, 0, 1)", "take(0, 1, 0)", "light(0, 1) = 663665",
            "light(0, 2) = 440450", "light(0, 3) = 292310");
    }

    private static void lightOfKinds() {
        Script.run("LIGHT: of TURN with the hour as the DAY: 1 is the first", Script.behind(ALONE, "way(0, 4, 200)", "take(0, 0, 0)",
            "light(0, 1) = 1000000", "light(0, 2) = 0", "way(0, 4, 201)", "take(0, 0, 0)", "light(0, 1) = 0"));
        Script.run("LIGHT: it stays dark", Script.behind(ALONE, "way(0, 4, 907)", "take(0, 0, 0)", "light(0, 6) = 1000000", "light(0, 7) = 0",
            "light(0, 8) = 0", "light(0, 99) = 0"));
    }

    private static void lates() {
        Script.run("47: LIGHT is v at most: just as much", Script.behind(ALONE, "way(0, 2, 500)", "take(0, 0, 0)", "late(0, 500000) = 1",
            "late(0, 499999) = 2", "late(0, 250000) = 2", "late(0, 249999) = 3", "late(0, 1) = 19", "late(0, 0) = 20"));
        Script.run("47: the first hour (1 to 99): not 0", Script.behind(ALONE, "late(0, 1000000) = 1", "late(0, 999999) = NONE", "late(0, 0) = NONE"));
        Script.run("47: NONE: behind the 99th hour there is none", Script.behind(ALONE, "way(0, 2, 1)", "take(0, 0, 0)", "light(0, 98) = 906550",
            "light(0, 99) = 905643", "late(0, 905643) = 99", "late(0, 905642) = NONE", "late(0, 906550) = 98", "late(0, 906549) = 99"));
    }

    // ---- 48

    private static void seeds() {
        Script.run("48: SEED becomes v: the one ahead", "seed(0) = 1", "seed(-1) = 0", "seed(" + LEAST + ") = -1", "seed(" + GREATEST + ") = " + LEAST,
            "status(2) = " + GREATEST, "seed(5) = " + GREATEST, "status(12) = 0");
    }
}
