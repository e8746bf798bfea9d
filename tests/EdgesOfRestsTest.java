import java.util.ArrayList;
import java.util.List;

/** The edges of promises 19 to 33: GAINS, GOOD, RESTS, and what comes IN TURN. */
public final class EdgesOfRestsTest {
    private static final String LEAST = "-2147483648";
    private static final String GREATEST = "2147483647";
    /** At REST: 0 alone (1), and the three others (14). */
    private static final String[] STAR = {"read 'people 4;cost 2;worth 7;tie 0 1;tie 0 2;tie 0 3' = 0"};
    /** 0 does if 1 doesn't, 1 if 0 does: no REST. */
    private static final String[] CHASE = {"read 'people 2;more 5;one 0 cost 7 worth 9;one 1 cost 3 worth 2;all' = 0"};
    private static final String[] TWELVE = {"read 'people 12;cost 3;worth 3' = 0"};
    private static final String[] ALONE = {"read 'people 1;cost 2;worth 5' = 0"};
    private static final String[] OF_A_STREET = {"count", "fewest", "most", "cheap", "best", "good", "lost", "beside"};
    private static final String[] OF_A_SET = {"total", "judge", "go", "turns", "ring"};

    public static void main(String[] args) {
        badStreets();
        badSets();
        badPersons();
        gains();
        greatestGains();
        goods();
        judging();
        counting();
        nthRests();
        noRest();
        oneRest();
        ofSeveralTheLeast();
        greatestGood();
        below();
        inTurn();
        changes();
        rings();
        ringsByDoers();
        Due.end();
    }

    private static void badStreets() {
        for (String call : OF_A_STREET) {
            List<String> lines = new ArrayList<>(List.of(STAR));
            for (String street : new String[] {"-1", "1", "4", LEAST, GREATEST}) {
                lines.add(call + "(" + street + ") = BAD");
            }
            Script.run(call + ": BAD: no such STREET", lines);
        }
        for (String call : OF_A_SET) {
            Script.run(call + ": BAD: no such STREET", Script.behind(STAR, call + "(-1, 0) = BAD", call + "(1, 0) = BAD",
                call + "(4, 0) = BAD", call + "(" + LEAST + ", 0) = BAD", call + "(" + GREATEST + ", 0) = BAD"));
        }
        Script.run("19: BAD: no such STREET", Script.behind(STAR, "gain(-1, 0, 0) = BAD", "gain(1, 0, 0) = BAD", "gain(4, 0, 0) = BAD"));
        Script.run("23: BAD: no such STREET", Script.behind(STAR, "rest(-1, 0) = BAD", "rest(1, 0) = BAD", "rest(4, 0) = BAD"));
    }

    private static void badSets() {
        for (String call : OF_A_SET) {
            Script.run(call + ": BAD: a set has PERSONS alone", Script.behind(STAR, call + "(0, -1) = BAD", call + "(0, 16) = BAD",
                call + "(0, 17) = BAD", call + "(0, " + LEAST + ") = BAD", call + "(0, " + GREATEST + ") = BAD"));
            Script.run(call + ": BAD: a set of one PERSON", Script.behind(ALONE, call + "(0, 2) = BAD", call + "(0, 3) = BAD"));
            Script.run(call + ": BAD: a set of 12 PERSONS", Script.behind(TWELVE, call + "(0, 4096) = BAD"));
        }
        Script.run("19: BAD: a set has PERSONS alone", Script.behind(STAR, "gain(0, 0, -1) = BAD", "gain(0, 0, 16) = BAD",
            "gain(0, 0, " + LEAST + ") = BAD", "gain(0, 0, " + GREATEST + ") = BAD", "gain(0, 0, 15) = 5", "gain(0, 0, 0) = 0"));
        Script.run("sets: with one more PERSON there are more", Script.behind(STAR, "total(0, 16) = BAD", "come(0, 0, 2, 7)",
            "total(0, 16) = 5", "total(0, 31) = 25", "total(0, 32) = BAD", "judge(0, 17) = NONE", "go(0, 16) = 17"));
    }

    private static void badPersons() {
        Script.run("19: BAD: no such PERSON", Script.behind(STAR, "gain(0, -1, 0) = BAD", "gain(0, 4, 0) = BAD", "gain(0, 12, 0) = BAD",
            "gain(0, " + LEAST + ", 0) = BAD", "gain(0, " + GREATEST + ", 0) = BAD", "gain(0, 3, 8) = 5", "gain(0, 0, 1) = 5"));
        Script.run("19: the twelfth PERSON", Script.behind(TWELVE, "gain(0, 11, 2048) = 0", "gain(0, 11, 2047) = 0", "gain(0, 12, 0) = BAD"));
    }

    private static void gains() {
        String[] scene = {"read 'people 4;cost 3;worth 9;more 2;tie 0 1 price 4;tie 0 2 price 1' = 0"};
        Script.run("GAIN: if there are any HELPERS: none", Script.behind(scene, "gain(0, 0, 0) = -5", "gain(0, 3, 0) = 0",
            "gain(0, 0, 8) = -5", "gain(0, 3, 7) = 0", "gain(0, 1, 12) = -4"));
        Script.run("GAIN: MORE times one less than these: one, two, three", Script.behind(scene, "gain(0, 0, 2) = 4", "gain(0, 0, 1) = 1",
            "gain(0, 0, 6) = 6", "gain(0, 0, 3) = 3", "gain(0, 0, 7) = 5", "gain(0, 0, 15) = 5"));
        Script.run("GAIN: less COST if he does", Script.behind(scene, "gain(0, 3, 8) = 6", "gain(0, 3, 0) = 0", "gain(0, 1, 2) = 2",
            "gain(0, 1, 1) = 5"));
        Script.run("GAIN: below nought", "read 'people 2;cost 99;tie 0 1 price 9' = 0", "gain(0, 0, 1) = -108", "gain(0, 0, 2) = -9",
            "total(0, 3) = -216", "total(0, 0) = -18");
        Script.run("GAIN of one alone", Script.behind(ALONE, "gain(0, 0, 0) = 0", "gain(0, 0, 1) = 3", "total(0, 1) = 3"));
    }

    private static void greatestGains() {
        Script.run("GAIN: the greatest", "read 'people 12;worth 99;more 9;all' = 0", "gain(0, 0, 4095) = 198", "gain(0, 11, 4095) = 198",
            "gain(0, 0, 4094) = 189", "total(0, 4095) = 2376");
        List<String> lines = new ArrayList<>();
        lines.add("read 'people 12;cost 99' = 0");
        for (int a = 0; a < 12; a++) {
            for (int b = 0; b < a; b++) {
                lines.add("tie(0, " + a + ", " + b + ", 9)");
            }
        }
        lines.addAll(List.of("gain(0, 0, 4095) = -198", "gain(0, 11, 4095) = -198", "total(0, 4095) = -2376", "total(0, 0) = -1188"));
        Script.run("GAIN: the least", lines);
    }

    private static void goods() {
        Script.run("20: of no DOERS, of all", Script.behind(STAR, "total(0, 0) = 0", "total(0, 15) = 20", "total(0, 1) = 26"));
        Script.run("20: it is told of sets without those that MUST, too", Script.behind(STAR, "must(0, 0, true)", "total(0, 0) = 0",
            "gain(0, 0, 0) = 0", "total(0, 2) = 12"));
    }

    private static void judging() {
        Script.run("21: NONE: it is a REST", Script.behind(STAR, "judge(0, 1) = NONE", "judge(0, 14) = NONE"));
        Script.run("21: the first PERSON who WOULD", Script.behind(STAR, "judge(0, 0) = 0", "judge(0, 2) = 2", "judge(0, 6) = 3",
            "judge(0, 15) = 0", "judge(0, 9) = 0"));
        Script.run("WOULD: GAINS more by it: not as much", "read 'people 3;cost 3;worth 3;more 3;all' = 0", "judge(0, 0) = NONE",
            "judge(0, 1) = NONE", "judge(0, 7) = NONE", "alter(0, 1, 1, 4)", "judge(0, 0) = 1", "judge(0, 1) = NONE", "alter(0, 2, 0, 4)",
            "judge(0, 4) = 2", "judge(0, 6) = 2", "judge(0, 2) = NONE");
        Script.run("21: or MUST and doesn't", Script.behind(STAR, "must(0, 3, true)", "judge(0, 1) = 3", "judge(0, 0) = 0",
            "judge(0, 14) = NONE", "judge(0, 9) = 0", "must(0, 0, true)", "judge(0, 9) = NONE", "judge(0, 8) = 0", "judge(0, 1) = 3"));
        Script.run("WOULD: if he isn't a MUST", "read 'people 2;cost 9;must 1' = 0", "judge(0, 2) = NONE", "judge(0, 0) = 1",
            "judge(0, 3) = 0", "judge(0, 1) = 0");
        Script.run("21: the twelfth", "read 'people 12;must 11' = 0", "judge(0, 2047) = 11", "judge(0, 2048) = NONE", "judge(0, 0) = 11");
    }

    private static void counting() {
        Script.run("22: none", Script.behind(CHASE, "count(0) = 0"));
        Script.run("22: all sets", Script.behind(TWELVE, "count(0) = 4096", "rest(0, 4095) = 4095", "rest(0, 4096) = BAD", "rest(0, 0) = 0"));
        Script.run("22: all sets of 1", "read 'people 1' = 0", "count(0) = 2", "rest(0, 1) = 1", "rest(0, 2) = BAD");
        Script.run("22: all must: one", "read 'people 2;cost 9;must 0;must 1' = 0", "count(0) = 1", "rest(0, 0) = 3", "rest(0, 1) = BAD");
        Script.run("22: nobody would: the empty set", "read 'people 3;cost 1;all' = 0", "count(0) = 1", "rest(0, 0) = 0", "fewest(0) = 0",
            "most(0) = 0", "cheap(0) = 0", "best(0) = 0", "good(0) = 0", "lost(0) = 0", "beside(0) = 0");
    }

    private static void nthRests() {
        Script.run("23: the i-th REST, BAD: none such, too", Script.behind(STAR, "rest(0, 0) = 1", "rest(0, 1) = 14", "rest(0, 2) = BAD",
            "rest(0, -1) = BAD", "rest(0, " + LEAST + ") = BAD", "rest(0, " + GREATEST + ") = BAD"));
        Script.run("23: of no REST", Script.behind(CHASE, "rest(0, 0) = BAD", "rest(0, -1) = BAD"));
    }

    private static void noRest() {
        Script.run("24 to 30: NONE: there is none", Script.behind(CHASE, "fewest(0) = NONE", "most(0) = NONE", "cheap(0) = NONE",
            "best(0) = NONE", "lost(0) = NONE", "beside(0) = NONE", "good(0) = 3", "status(12) = 0", "status(15) = 0"));
    }

    private static void oneRest() {
        Script.run("24 to 30: one alone", Script.behind(ALONE, "count(0) = 1", "fewest(0) = 1", "most(0) = 1", "cheap(0) = 1", "best(0) = 1",
            "good(0) = 1", "lost(0) = 0", "beside(0) = 0"));
    }

    private static void ofSeveralTheLeast() {
        Script.run("24 to 28: of several the least: of a path", "read 'people 4;cost 3;worth 5;tie 0 1;tie 1 2;tie 2 3' = 0", "count(0) = 3",
            "rest(0, 0) = 5", "rest(0, 1) = 9", "rest(0, 2) = 10", "fewest(0) = 5", "most(0) = 5", "cheap(0) = 5", "best(0) = 5");
        Script.run("24 to 28: of several the least: of all that are alike", "read 'people 3;cost 3;worth 5;all' = 0", "fewest(0) = 1",
            "most(0) = 1", "cheap(0) = 1", "best(0) = 1", "good(0) = 1");
        Script.run("24 to 27: the fewest, the most, the cheapest, the best need not be one",
            "read 'people 5;worth 9;one 0 cost 8 worth 99;one 1 cost 5 worth 9;tie 0 1;tie 0 2;tie 0 3;tie 1 2;tie 1 3' = 0",
            "alter(0, 2, 0, 2)", "alter(0, 3, 0, 2)", "alter(0, 4, 0, 1)", "must(0, 4, true)", "count(0) = 3", "rest(0, 0) = 17",
            "rest(0, 1) = 18", "rest(0, 2) = 28", "fewest(0) = 17", "most(0) = 28", "cheap(0) = 28", "best(0) = 28", "alter(0, 2, 0, 8)",
            "cheap(0) = 18", "best(0) = 18", "fewest(0) = 17", "most(0) = 28", "alter(0, 0, 0, 4)", "best(0) = 17", "cheap(0) = 17");
        Script.run("24: the fewest below a set with more", Script.behind(STAR, "must(0, 3, true)", "come(0, 0, 0, 0) = 4",
            "count(0) = 2", "rest(0, 0) = 14", "rest(0, 1) = 30", "fewest(0) = 14", "most(0) = 30", "cheap(0) = 14", "best(0) = 14"));
        Script.run("24: the fewest above a lesser set with more: a star about the last", "read 'people 4;cost 2;worth 7;tie 3 0;tie 3 1;tie 3 2' = 0",
            "count(0) = 2", "rest(0, 0) = 7", "rest(0, 1) = 8", "fewest(0) = 8", "most(0) = 7", "cheap(0) = 8", "best(0) = 8");
        Script.run("25: the most above a lesser set with fewer", Script.behind(STAR, "fewest(0) = 1", "most(0) = 14", "alter(0, 0, 0, 6)",
            "alter(0, 1, 0, 1)", "alter(0, 2, 0, 1)", "alter(0, 3, 0, 1)", "cheap(0) = 14", "best(0) = 14", "fewest(0) = 1",
            "alter(0, 0, 0, 3)", "cheap(0) = 1", "best(0) = 1"));
    }

    private static void greatestGood() {
        Script.run("28: at REST or not", "read 'people 2;cost 5;worth 4;all' = 0", "good(0) = 1", "count(0) = 1", "rest(0, 0) = 0");
        Script.run("28: of several the least: the empty set", "read 'people 3;cost 5;worth 5' = 0", "good(0) = 0", "alter(0, 2, 0, 4)", "good(0) = 4");
        Script.run("28: with all that MUST", "read 'people 3;cost 5;worth 4' = 0", "good(0) = 0", "must(0, 1, true)", "good(0) = 2",
            "must(0, 0, true)", "must(0, 2, true)", "good(0) = 7");
        Script.run("28: all of twelve", "read 'people 12;cost 1;worth 3' = 0", "good(0) = 4095", "best(0) = 4095", "count(0) = 1");
        Script.run("28: below nought", "read 'people 2;cost 9;must 0;tie 0 1 price 9' = 0", "good(0) = 1", "total(0, 1) = -27", "lost(0) = 0",
            "beside(0) = 0");
    }

    private static void below() {
        Script.run("29, 30: nought", Script.behind(STAR, "lost(0) = 0", "beside(0) = 4"));
        // RESTS 5, 9, 10 tell 16, 14, 16, the greatest GOOD (15) is 20
        Script.run("29, 30: below the GOOD that is no REST's", "read 'people 4;cost 3;worth 5;more 2;tie 0 1;tie 1 2;tie 2 3' = 0", "good(0) = 15",
            "total(0, 15) = 20", "total(0, 5) = 16", "total(0, 9) = 14", "lost(0) = 4", "beside(0) = 6");
        // RESTS 1 (it costs 5, tells 22) and 6 (it costs 6, tells 24), the greatest GOOD (7) is 28
        Script.run("29, 30: the best REST is not the cheapest nor that with the fewest",
            "read 'people 3;cost 3;worth 9;more 3;one 0 cost 5 worth 9;tie 0 1;tie 0 2' = 0", "count(0) = 2", "fewest(0) = 1", "cheap(0) = 1",
            "best(0) = 6", "most(0) = 6", "total(0, 1) = 22", "total(0, 6) = 24", "good(0) = 7", "total(0, 7) = 28", "lost(0) = 4", "beside(0) = 6");
        Script.run("29, 30: of one that is not the good one", "read 'people 2;cost 5;worth 4;all' = 0", "lost(0) = 3", "beside(0) = 3");
    }

    private static void inTurn() {
        Script.run("31: from nobody, from all", Script.behind(STAR, "go(0, 0) = 1", "go(0, 15) = 14", "turns(0, 0) = 1", "turns(0, 15) = 1",
            "ring(0, 0) = 0", "ring(0, 15) = 0"));
        Script.run("31 to 33: from a REST: it ends there, without a change", Script.behind(STAR, "go(0, 1) = 1", "turns(0, 1) = 0",
            "ring(0, 1) = 0", "go(0, 14) = 14", "turns(0, 14) = 0", "ring(0, 14) = 0"));
        Script.run("IN TURN: from told DOERS and all that MUST", Script.behind(STAR, "must(0, 1, true)", "go(0, 0) = 14", "turns(0, 0) = 2",
            "ring(0, 0) = 0", "go(0, 2) = 14", "turns(0, 2) = 2", "go(0, 1) = 14", "turns(0, 1) = 3"));
        Script.run("IN TURN: all MUST", Script.behind(TWELVE, "must(0, 0, true)", "must(0, 11, true)", "go(0, 0) = 2049", "turns(0, 0) = 0"));
        Script.run("IN TURN: the PERSONS 0, 1, .. each, by what those ahead did", "read 'people 5;cost 3;worth 9;ring' = 0", "go(0, 0) = 5",
            "turns(0, 0) = 2", "go(0, 31) = 18", "turns(0, 31) = 5");
        Script.run("IN TURN: more rounds than one", "read 'people 4;cost 3;worth 2;more 4;one 3 cost 1 worth 5;tie 0 1;tie 1 2;tie 2 3' = 0",
            "go(0, 0) = 15", "turns(0, 0) = 4", "ring(0, 0) = 0");
        Script.run("31 to 33: one alone", Script.behind(ALONE, "go(0, 0) = 1", "turns(0, 0) = 1", "ring(0, 0) = 0", "go(0, 1) = 1",
            "turns(0, 1) = 0"));
    }

    private static void changes() {
        Script.run("32: (or till a RING is closed)", Script.behind(CHASE, "turns(0, 0) = 4", "turns(0, 3) = 4", "turns(0, 1) = 5",
            "turns(0, 2) = 5", "status(15) = 0"));
        Script.run("32: all twelve change", "read 'people 12;cost 1;worth 3' = 0", "turns(0, 0) = 12", "go(0, 0) = 4095", "turns(0, 4095) = 0");
    }

    /** 0 and 1 chase each other till 2 does, who neither would do nor stop. */
    private static final String[] THREE = {
        "read 'people 3;more 5;one 0 cost 7 worth 9;one 1 cost 3 worth 2;one 2 cost 5 worth 5;tie 0 1;tie 1 2' = 0"};
    private static final String[] LAST_TWO = {"read 'people 12;more 5;one 10 cost 7 worth 9;one 11 cost 3 worth 2;tie 10 11' = 0"};

    private static void ringsByDoers() {
        Script.run("31 to 33: from told DOERS it ends, from others there is a RING", Script.behind(THREE, "go(0, 0) = STATE", "go(0, 3) = STATE",
            "ring(0, 0) = 2", "ring(0, 3) = 2", "turns(0, 0) = 4", "go(0, 4) = 6", "ring(0, 4) = 0", "turns(0, 4) = 3", "go(0, 7) = 6", "ring(0, 7) = 0",
            "turns(0, 7) = 1"));
        Script.run("31 to 33: and all that MUST, told or not", Script.behind(THREE, "must(0, 2, true)", "go(0, 0) = 6", "ring(0, 0) = 0", "turns(0, 0) = 3",
            "go(0, 4) = 6", "ring(0, 4) = 0", "turns(0, 4) = 3", "go(0, 3) = 6", "ring(0, 3) = 0", "turns(0, 3) = 1"));
        List<String> lines = new ArrayList<>(List.of(LAST_TWO));
        for (int set : new int[] {0, 1, 63, 64, 511, 512, 960, 1023}) {
            lines.addAll(List.of("ring(0, " + set + ") = 2", "turns(0, " + set + ") = 4", "ring(0, " + (set + 3072) + ") = 2",
                "turns(0, " + (set + 3072) + ") = 4", "turns(0, " + (set + 1024) + ") = 5", "turns(0, " + (set + 2048) + ") = 5"));
        }
        lines.addAll(List.of("go(0, 0) = STATE", "go(0, 4095) = STATE"));
        Script.run("31 to 33: a RING of the last two of 12", lines);
    }

    private static void rings() {
        Script.run("31: STATE: a RING", Script.behind(CHASE, "go(0, 0) = STATE", "go(0, 1) = STATE", "go(0, 2) = STATE", "go(0, 3) = STATE"));
        Script.run("31: BAD ahead of STATE", Script.behind(CHASE, "go(0, 4) = BAD", "go(0, -1) = BAD", "go(1, 0) = BAD"));
        Script.run("33: behind a round as at first", Script.behind(CHASE, "ring(0, 0) = 2", "ring(0, 3) = 2"));
        Script.run("33: behind a round as behind an earlier one", Script.behind(CHASE, "ring(0, 1) = 2", "ring(0, 2) = 2"));
        Script.run("33: 0: it ends", Script.behind(CHASE, "must(0, 0, true)", "ring(0, 0) = 0", "go(0, 0) = 3", "must(0, 0, false)",
            "must(0, 1, true)", "ring(0, 0) = 0", "go(0, 0) = 2", "go(0, 1) = 2", "turns(0, 1) = 1", "status(15) = 0"));
    }
}
