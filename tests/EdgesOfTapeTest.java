import java.util.ArrayList;
import java.util.List;

/** The edges of promises 9 to 11: THE TAPE, and STREETS that are read from it. */
public final class EdgesOfTapeTest {
    private static final String FORTY = " ".repeat(40);

    public static void main(String[] args) {
        feeding();
        fullTape();
        wiping();
        fullStreets();
        eitherWay();
        emptyTapes();
        tokens();
        strangeBytes();
        eachByte();
        numbers();
        people();
        costsAndWorths();
        mores();
        ones();
        ties();
        musts();
        rings();
        alls();
        between();
        Due.end();
    }

    // ---- 9 and 10

    private static void feeding() {
        Script.run("9: the n lowest bytes (1 .. 4) of v", "feed(0, 0) = BAD", "feed(0, 5) = BAD", "feed(0, -1) = BAD",
            "feed(0, -2147483648) = BAD", "feed(0, 2147483647) = BAD", "feed(0, 1) = 1", "feed(0, 4) = 5", "status(1) = 5");
        // people 2 by 1, 2, 3 bytes, each with other bytes above those that count
        Script.run("9: the highest of these first", "feed(" + 0x7a7a7a70 + ", 1) = 1", "feed(" + 0x7a7a656f + ", 2) = 3",
            "feed(" + 0x7a706c65 + ", 3) = 6", "feed(" + 0x2032 + ", 2) = 8", "street() = 0", "streetOf(0, 0) = 2");
        Script.run("9: all four", "feed(" + 0x70656f70 + ", 4) = 4", "feed(" + 0x6c653131 + ", 4) = 8", "street() = 0",
            "streetOf(0, 0) = 11");
        Script.run("9: bytes above 127", "feed(-1, 4) = 4", "feed(-2147483648, 4) = 8", "status(1) = 8", "street() = FAULT 0");
    }

    private static void fullTape() {
        List<String> full = new ArrayList<>();
        full.add("tape 'people 3'");
        for (int i = 0; i < 37; i++) {
            full.add("feed(" + 0x20202020 + ", 4) = " + (12 + 4 * i));
        }
        List<String> one = new ArrayList<>(full);
        one.addAll(List.of("feed(0, 5) = BAD", "feed(0, 0) = BAD", "feed(" + 0x3b616c6c + ", 4) = 160", "feed(32, 1) = FULL",
            "feed(32, 4) = FULL", "feed(32, 5) = BAD", "feed(32, 0) = BAD", "feed(32, -1) = BAD", "status(1) = 160",
            "street() = 0", "streetOf(0, 1) = 3", "status(1) = 0", "feed(32, 1) = 1"));
        Script.run("9: 160 bytes at most, all are read; BAD, then FULL", one);
        List<String> three = new ArrayList<>(full);
        three.addAll(List.of("feed(59, 1) = 157", "feed(" + 0x616c6c61 + ", 4) = FULL", "status(1) = 157",
            "feed(" + 0x616c6c + ", 3) = 160", "feed(97, 1) = FULL", "street() = 0", "streetOf(0, 1) = 3"));
        Script.run("9: FULL: none of them comes in", three);
        List<String> two = new ArrayList<>(full);
        two.addAll(List.of("feed(" + 0x2020 + ", 2) = 158", "feed(0, 3) = FULL", "feed(0, 4) = FULL", "feed(32, 1) = 159",
            "feed(0, 2) = FULL", "feed(59, 1) = 160", "street() = FAULT 160", "status(1) = 0"));
        Script.run("9: FULL by 2, by 3", two);
    }

    private static void wiping() {
        Script.run("10: its size ahead", "wipe() = 0", "wipe() = 0", "feed(0, 3)", "wipe() = 3", "status(1) = 0", "wipe() = 0",
            "tape 'zzz'", "wipe() = 3", "read 'people 2' = 0", "streetOf(0, 0) = 2", "status(12) = 0");
        Script.run("10: a full one", "tape '" + FORTY + FORTY + FORTY + FORTY + "'", "feed(32, 1) = FULL", "wipe() = 160",
            "feed(32, 1) = 1");
    }

    // ---- 11

    private static void fullStreets() {
        String[] four = {"read 'people 1' = 0", "read 'people 2' = 1", "read 'people 3' = 2", "read 'people 4' = 3"};
        Script.run("STREETS: 4 at most", Script.behind(four, "status(0) = 4", "streetOf(0, 0) = 1", "streetOf(3, 0) = 4",
            "streetOf(4, 0) = BAD", "streetOf(-1, 0) = BAD", "status(16) = 0"));
        Script.run("11: FULL (ahead of all; THE TAPE stays)", Script.behind(four, "tape 'people 12'", "street() = FULL",
            "status(1) = 9", "street() = FULL", "wipe() = 9", "status(0) = 4"));
        Script.run("11: FULL ahead of a FAULT", Script.behind(four, "tape 'people 13'", "street() = FULL", "status(12) = 0",
            "status(16) = 1", "status(1) = 9", "wipe()", "street() = FULL", "status(1) = 0"));
        Script.run("11: three, a FAULT, and the fourth", "read 'people 1' = 0", "read 'people 2' = 1", "read 'people 3' = 2",
            "read 'people' = FAULT 6", "status(0) = 3", "streetOf(3, 0) = BAD", "read 'people 4' = 3", "status(0) = 4",
            "read 'people 5' = FULL");
    }

    private static void eitherWay() {
        Script.run("11: THE TAPE is empty then, either way", "read 'people 3;al' = FAULT 9", "status(1) = 0", "wipe() = 0",
            "read 'people 3;all' = 0", "status(1) = 0", "street() = FAULT 0");
        Script.run("11: -20 less the FAULT (that is refused, too: BAD)", "read '' = FAULT 0", "status(12) = 1",
            "read 'a' = FAULT 0", "status(12) = 2", "read ' a' = FAULT 1", "status(12) = 3", "status(16) = 0");
        Script.run("11: its number", "read 'people 0' = FAULT 7", "read 'people 1' = 0", "read 'people 0' = FAULT 7",
            "read 'people 2' = 1", "streetOf(0, 0) = 1", "streetOf(1, 0) = 2");
        Script.run("11: nothing of a text with a FAULT stays",
            "read 'people 12;cost 5;worth 6;more 3;all;tie 0 1 price 5;must 3;must 11?' = FAULT 66", "status(0) = 0",
            "read 'people 12' = 0", "streetOf(0, 1) = 0", "streetOf(0, 2) = 0", "streetOf(0, 3) = 0", "streetOf(0, 4) = 0",
            "personOf(0, 0, 0) = 0", "personOf(0, 11, 1) = 0", "personOf(0, 1, 2) = 0", "personOf(0, 1, 5) = 0", "tie(0, 0, 1, 3) = NONE",
            "personOf(0, 0, 5) = 3", "personOf(0, 1, 5) = 3", "streetOf(0, 4) = 3");
    }

    private static void reads(String words, String text, String... lines) {
        Script.run(words + ": " + text, Script.behind(new String[] {"read '" + text + "' = 0"}, lines));
    }

    private static void faults(String words, String text, int place) {
        Script.run(words, "read '" + text + "' = FAULT " + place, "read 'people 1' = 0");
    }

    private static void emptyTapes() {
        faults("THE TAPE's size, if it ends too early: none", "", 0);
        faults("THE TAPE's size, if it ends too early: a blank", " ", 1);
        faults("THE TAPE's size, if it ends too early: full of blanks", FORTY + FORTY + FORTY + FORTY, 160);
        String[] early = {"people", "people 3;", "people 3;cost", "people 3;worth", "people 3;more", "people 3;one",
            "people 3;one 1", "people 3;one 1 cost", "people 3;one 1 cost 1", "people 3;one 1 cost 1 worth", "people 3;tie",
            "people 3;tie 1", "people 3;tie 1 2 price", "people 3;must", "people 3;ring;", "people 3;all;"};
        for (String text : early) {
            faults("THE TAPE's size, if it ends too early", text, text.length());
            faults("THE TAPE's size, blanks are bytes of it", text + "  ", text.length() + 2);
        }
    }

    private static void tokens() {
        reads("TOKENS, each as long as can be", "people3;cost4;tie0 1price5;must2", "streetOf(0, 0) = 3", "personOf(0, 0, 0) = 4",
            "streetOf(0, 4) = 5", "streetOf(0, 3) = 4");
        faults("TOKENS, each as long as can be: a WORD", "people 3;costworth 4", 9);
        faults("TOKENS, each as long as can be: a WORD more than one", "people 3;alll", 9);
        faults("TOKENS, each as long as can be: a NUMBER", "people 3;tie 12", 13);
        faults("TOKENS, each as long as can be: NUMBERS that are one", "people 5;one 1cost 34worth5;tie 34", 32);
        faults("TOKENS, each as long as can be: a WORD cut by a blank", "peop le 3", 0);
        faults("TOKENS, each as long as can be: a NUMBER cut by a blank", "people 1 2", 9);
        reads("blanks (32) may stand anywhere between", "  people  3 ; cost  4 ;all  ", "streetOf(0, 0) = 3",
            "streetOf(0, 1) = 3", "personOf(0, 2, 0) = 4");
        reads("blanks: none is needed behind a WORD", "people2", "streetOf(0, 0) = 2");
        faults("the SIGN ; alone", ";", 0);
        faults("STATEMENTS with ; between: two", "people 3;;all", 9);
        faults("STATEMENTS with ; between: none", "people 3 all", 9);
        faults("STATEMENTS with ; between: none, a NUMBER", "people 3 4", 9);
        faults("STATEMENTS with ; between: behind the last", "people 3;all 4", 13);
    }

    /** The bytes next to those that begin a TOKEN, and some far from them. */
    private static void strangeBytes() {
        int[] strange = {0, 9, 10, 31, 33, 44, 45, 47, 58, 60, 64, 65, 90, 96, 123, 127, 128, 160, 177, 187, 225, 255};
        for (int b : strange) {
            Script.run("a byte that begins none: " + b, "tape 'people 3'", "feed(" + b + ", 1)", "street() = FAULT 8",
                "feed(" + b + ", 1)", "street() = FAULT 0", "tape 'people 3;al'", "feed(" + b + ", 1)", "tape 'l'",
                "street() = FAULT 9", "tape 'people 3;cost 1'", "feed(" + b + ", 1)", "street() = FAULT 15");
        }
        reads("WORDS (a .. z) hold all of them: e, g, l, n, o, p, r, t, u, w", "people 3;ring;worth 1;must 1");
        faults("WORDS: the first sign", "people 3;a", 9);
        faults("WORDS: the last sign", "people 3;z", 9);
        faults("WORDS: behind a NUMBER", "people 3a", 8);
        faults("WORDS: the great ones are none", "People 3", 0);
        reads("NUMBERS (digits): 0 and 9", "people 10;cost 90;worth 09", "personOf(0, 9, 0) = 90", "personOf(0, 9, 1) = 9");
    }

    private static void readsWith(String words, String text, int b, String due) {
        Script.run(words + ": " + b, "tape '" + text + "'", "feed(" + b + ", 1)", "street() = " + due);
    }

    /** Each byte behind a WORD, and behind a NUMBER: these go on with it, or it is a TOKEN of its own, or none. */
    private static void eachByte() {
        for (int b = 0; b < 256; b++) {
            if (b >= 'a' && b <= 'z') {
                readsWith("WORDS (a .. z)", "people 3;all", b, "FAULT 9");
                readsWith("WORDS (a .. z)", "people 3;cost 1", b, "FAULT 15");
            } else if (b >= '0' && b <= '9') {
                readsWith("NUMBERS (digits)", "people 3;all", b, "FAULT 12");
                readsWith("NUMBERS (digits)", "people 3;cost 1", b, "0");
            } else if (b == ';') {
                readsWith("the SIGN ;", "people 3;all", b, "FAULT 13");
                readsWith("the SIGN ;", "people 3;cost 1", b, "FAULT 16");
            } else if (b == ' ') {
                readsWith("blanks (32)", "people 3;all", b, "0");
                readsWith("blanks (32)", "people 3;cost 1", b, "0");
            } else {
                readsWith("a byte that begins none", "people 3;all", b, "FAULT 12");
                readsWith("a byte that begins none", "people 3;cost 1", b, "FAULT 15");
            }
        }
    }

    private static void numbers() {
        reads("a NUMBER of 3 digits", "people 012;cost 099;worth 001;more 009;tie 000 011 price 000;must 011;one 010 cost 000 worth 099",
            "streetOf(0, 0) = 12", "personOf(0, 0, 0) = 99", "personOf(0, 0, 1) = 1", "streetOf(0, 2) = 9",
            "personOf(0, 11, 2) = 1", "streetOf(0, 3) = 2048", "personOf(0, 10, 0) = 0", "personOf(0, 10, 1) = 99");
        faults("has more than 3 digits: people", "people 0012", 7);
        faults("has more than 3 digits: cost", "people 3;cost 0001", 14);
        faults("has more than 3 digits: worth", "people 3;worth 0001", 15);
        faults("has more than 3 digits: more", "people 3;more 0001", 14);
        faults("has more than 3 digits: one", "people 3;one 0001 cost 1 worth 1", 13);
        faults("has more than 3 digits: one's cost", "people 3;one 1 cost 0001 worth 1", 20);
        faults("has more than 3 digits: one's worth", "people 3;one 1 cost 1 worth 0001", 28);
        faults("has more than 3 digits: tie A", "people 3;tie 0001 2", 13);
        faults("has more than 3 digits: tie B", "people 3;tie 1 0002", 15);
        faults("has more than 3 digits: price", "people 3;tie 1 2 price 0001", 23);
        faults("has more than 3 digits: must", "people 3;must 0001", 14);
        faults("has more than 3 digits, and wraps to one that may be", "people 4294967299", 7);
        faults("has more than 3 digits, many", "people 3;cost " + "0".repeat(146), 14);
        faults("a WORD where a NUMBER stands", "people three", 7);
        faults("a NUMBER where a WORD stands", "3 people", 0);
        faults("the SIGN where a NUMBER stands", "people;3", 6);
    }

    // ---- STATEMENTS

    private static void people() {
        reads("people N (1 to 12)", "people 1", "streetOf(0, 0) = 1", "personOf(0, 0, 2) = 0", "personOf(0, 1, 0) = BAD");
        reads("people N (1 to 12)", "people 12", "streetOf(0, 0) = 12", "personOf(0, 11, 2) = 0", "personOf(0, 12, 0) = BAD");
        faults("people N (1 to 12): 0", "people 0", 7);
        faults("people N (1 to 12): 13", "people 13", 7);
        faults("people N (1 to 12): 999", "people 999", 7);
        faults("the first one people N: another", "cost 3", 0);
        faults("the first one people N: all", "all", 0);
        faults("the first one people N: once", "people 3;people 3", 9);
    }

    private static void costsAndWorths() {
        reads("COST, WORTH, MORE are 0 at first", "people 2", "personOf(0, 0, 0) = 0", "personOf(0, 1, 1) = 0", "streetOf(0, 2) = 0");
        reads("cost N, worth N (0 to 99; of all)", "people 12;cost 99;worth 99", "personOf(0, 0, 0) = 99", "personOf(0, 11, 0) = 99",
            "personOf(0, 0, 1) = 99", "personOf(0, 11, 1) = 99");
        reads("cost N, worth N (0 to 99; of all): 0", "people 3;cost 9;worth 9;cost 0;worth 0", "personOf(0, 0, 0) = 0",
            "personOf(0, 2, 1) = 0");
        faults("cost N (0 to 99): 100", "people 3;cost 100", 14);
        faults("cost N (0 to 99): 999", "people 3;cost 999", 14);
        faults("worth N (0 to 99): 100", "people 3;worth 100", 15);
        faults("cost N: a WORD", "people 3;cost cost", 14);
        faults("worth N: the SIGN", "people 3;worth;all", 14);
        reads("what is told later counts", "people 3;one 1 cost 4 worth 5;cost 7;worth 8", "personOf(0, 1, 0) = 7", "personOf(0, 1, 1) = 8");
        reads("what is told later counts", "people 3;cost 7;worth 8;one 1 cost 4 worth 5;cost 3", "personOf(0, 1, 0) = 3",
            "personOf(0, 1, 1) = 5", "personOf(0, 2, 1) = 8");
    }

    private static void mores() {
        reads("more N (0 to 9)", "people 2;more 9", "streetOf(0, 2) = 9");
        reads("more N (0 to 9), later", "people 2;more 9;more 0", "streetOf(0, 2) = 0");
        faults("more N (0 to 9): 10", "people 2;more 10", 14);
        faults("more N (0 to 9): 999", "people 2;more 999", 14);
        faults("more N: the SIGN", "people 2;more;all", 13);
    }

    private static void ones() {
        reads("one A cost N worth N (0 to 99)", "people 3;one 0 cost 0 worth 99;one 2 cost 99 worth 0", "personOf(0, 0, 0) = 0",
            "personOf(0, 0, 1) = 99", "personOf(0, 1, 0) = 0", "personOf(0, 1, 1) = 0", "personOf(0, 2, 0) = 99", "personOf(0, 2, 1) = 0");
        reads("one A: of 1", "people 1;one 0 cost 1 worth 2", "personOf(0, 0, 1) = 2");
        reads("one A: the last of 12", "people 12;one 11 cost 1 worth 2", "personOf(0, 11, 1) = 2");
        faults("A (0 to N less 1): N", "people 3;one 3 cost 1 worth 1", 13);
        faults("A (0 to N less 1): N of 1", "people 1;one 1 cost 1 worth 1", 13);
        faults("A (0 to N less 1): N of 12", "people 12;one 12 cost 1 worth 1", 14);
        faults("one A cost N (0 to 99): 100", "people 3;one 1 cost 100 worth 1", 20);
        faults("one A .. worth N (0 to 99): 100", "people 3;one 1 cost 1 worth 100", 28);
        faults("one A cost N: another WORD", "people 3;one 1 worth 1 cost 1", 15);
        faults("one A cost N worth N: no worth", "people 3;one 1 cost 1;worth 1", 21);
        faults("one A cost N worth N: another WORD", "people 3;one 1 cost 1 cost 1", 22);
        faults("one A: no A", "people 3;one cost 1 worth 1", 13);
        faults("one A cost N: no N", "people 3;one 1 cost worth 1", 20);
        faults("one A .. worth N: no N", "people 3;one 1 cost 1 worth;all", 27);
    }

    private static void ties() {
        reads("tie A B, perhaps price N (0 to 9)", "people 4;tie 0 3 price 9;tie 1 0 price 0;tie 2 1", "tie(0, 0, 3, 9) = 9",
            "tie(0, 0, 1, 0) = 0", "tie(0, 1, 2, 0) = 0", "tie(0, 0, 2, 0) = NONE", "streetOf(0, 4) = 9");
        reads("0 without it, told later", "people 2;tie 0 1 price 5;tie 1 0", "streetOf(0, 4) = 0", "streetOf(0, 1) = 1");
        reads("a price told later", "people 2;tie 0 1;tie 1 0 price 5;tie 0 1 price 4", "streetOf(0, 4) = 4", "streetOf(0, 1) = 1");
        faults("price N (0 to 9): 10", "people 3;tie 1 2 price 10", 23);
        faults("price N (0 to 9): 999", "people 3;tie 1 2 price 999", 23);
        faults("price N: the SIGN", "people 3;tie 1 2 price;all", 22);
        faults("perhaps price N: another WORD", "people 3;tie 1 2 cost 3", 17);
        faults("perhaps price N: a NUMBER", "people 3;tie 1 2 0", 17);
        faults("perhaps price N: twice", "people 3;tie 1 2 price 3 price 3", 25);
        faults("A (0 to N less 1): N", "people 3;tie 3 1", 13);
        faults("B (0 to N less 1): N", "people 3;tie 1 3", 15);
        faults("B another one", "people 3;tie 1 1", 15);
        faults("B another one: as 3 digits", "people 3;tie 1 001", 15);
        faults("B another one: 0", "people 3;tie 0 0", 15);
        faults("B another one: there is none", "people 1;tie 0 0", 15);
        faults("tie A B: no B", "people 3;tie 1;all", 14);
        faults("tie A B: a WORD", "people 3;tie 1 price 2", 15);
        reads("tie: the last two of 12", "people 12;tie 11 10", "personOf(0, 10, 2) = 2048", "personOf(0, 11, 2) = 1024");
    }

    private static void musts() {
        reads("must A: none", "people 3", "streetOf(0, 3) = 0");
        reads("must A: the first, the last, twice", "people 12;must 0;must 11;must 0", "streetOf(0, 3) = 2049");
        reads("must A: of 1", "people 1;must 0", "streetOf(0, 3) = 1");
        faults("must A (0 to N less 1): N", "people 3;must 3", 14);
        faults("must A (0 to N less 1): N of 12", "people 12;must 12", 15);
        faults("must A: one", "people 3;must 1 2", 16);
        faults("must A: no A", "people 3;must;all", 13);
        faults("must A: a WORD", "people 3;must all", 14);
    }

    private static void rings() {
        reads("ring (if there are 3 PERSONS at least): 3", "people 3;ring", "streetOf(0, 1) = 3", "personOf(0, 0, 2) = 6");
        reads("ring: each PERSON and the next one, the last and the first", "people 12;ring", "streetOf(0, 1) = 12",
            "personOf(0, 0, 2) = 2050", "personOf(0, 11, 2) = 1025", "personOf(0, 5, 2) = 80");
        faults("ring (if there are 3 PERSONS at least): 2", "people 2;ring", 9);
        faults("ring (if there are 3 PERSONS at least): 1", "people 1;ring", 9);
        faults("ring (if there are 3 PERSONS at least): 2, a FAULT that is ahead of another", "people 2;ring 5!", 9);
        faults("ring: no NUMBER", "people 3;ring 3", 14);
        reads("those that aren't NEAR yet, at PRICE 0", "people 4;tie 0 1 price 3;tie 3 0 price 4;ring", "streetOf(0, 1) = 4",
            "streetOf(0, 4) = 7", "tie(0, 1, 2, 0) = 0", "tie(0, 3, 0, 0) = 4");
        reads("ring, then a price", "people 4;ring;tie 3 0 price 5;ring", "streetOf(0, 1) = 4", "streetOf(0, 4) = 5");
    }

    private static void alls() {
        reads("all: each two: of 1 none", "people 1;all", "streetOf(0, 1) = 0", "personOf(0, 0, 2) = 0");
        reads("all: each two: of 2", "people 2;all", "streetOf(0, 1) = 1", "personOf(0, 0, 2) = 2");
        reads("all: each two: of 12", "people 12;all", "streetOf(0, 1) = 66", "personOf(0, 0, 2) = 4094", "personOf(0, 11, 2) = 2047");
        reads("those that aren't NEAR yet, at PRICE 0", "people 3;tie 2 0 price 6;all;all", "streetOf(0, 1) = 3", "streetOf(0, 4) = 6",
            "tie(0, 0, 1, 0) = 0");
        faults("all: no NUMBER", "people 3;all 3", 13);
    }

    /** The first TOKEN that can't stand: what comes behind it doesn't count. */
    private static void between() {
        faults("the first TOKEN that can't stand there: of two", "people 3;cost 100;worth 100", 14);
        faults("the first TOKEN that can't stand there: a byte behind it", "people 13!", 7);
        faults("the first TOKEN that can't stand there: a byte ahead of it", "people ! 13", 7);
        faults("the place of the first byte of the first TOKEN: behind blanks", "people 3 ;  cost   100", 19);
        faults("the place of the first byte of the first TOKEN: a WORD that is none", "people 3;all;rings", 13);
        faults("a WORD that begins as one does", "people 3;mus 1", 9);
        faults("a WORD that ends as one does", "people 3;xall", 9);
        faults("a WORD of a STATEMENT elsewhere", "people 3;price 3", 9);
    }
}
