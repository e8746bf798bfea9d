/** Promises 9 to 11: THE TAPE, and the STREETS that are read from it. */
public final class TapeTest {
    public static void main(String[] args) {
        feeding();
        fullTape();
        reading();
        faults();
        noughts();
        nothingStays();
        laterCounts();
        fourStreets();
        Due.end();
    }

    private static void feeding() {
        SomebodyWill x = new SomebodyWill();
        Due.is("feed 4", x.feed(0x70656f70, 4), 4);
        Due.is("feed 2, lowest bytes", x.feed(0x7a7a6c65, 2), 6);
        Due.is("feed 3", x.feed(0x7a20203b, 3), 9);
        Due.is("status(1)", x.status(1), 9);
        Due.is("the fault is the sign", x.street(), -28);
        Due.is("the tape is empty", x.status(1), 0);
        Due.is("feed 1", x.feed(-1, 1), 1);
        Due.refuses(x, -2, "feed none", () -> x.feed(0, 0));
        Due.refuses(x, -2, "feed 5", () -> x.feed(0, 5));
        Due.refuses(x, -2, "feed -1", () -> x.feed(0, -1));
        Due.is("status(1)", x.status(1), 1);
        Due.is("wipe()", x.wipe(), 1);
        Due.is("status(1)", x.status(1), 0);
        Due.is("wipe() again", x.wipe(), 0);
    }

    private static void fullTape() {
        SomebodyWill x = new SomebodyWill();
        Due.feed(x, "people 3");
        for (int i = 0; i < 37; i++) {
            x.feed(0x20202020, 4);
        }
        Due.is("status(1)", x.status(1), 156);
        Due.is("feed 2", x.feed(0x3b61, 2), 158);
        Due.refuses(x, -6, "feed 3 of 2", () -> x.feed(0x6c6c6c, 3));
        Due.refuses(x, -2, "feed 5: BAD ahead of FULL", () -> x.feed(0x6c6c6c, 5));
        Due.is("feed 2", x.feed(0x6c6c, 2), 160);
        Due.refuses(x, -6, "feed 1 of none", () -> x.feed(0x6c, 1));
        Due.is("all 160 bytes are read", x.street(), 0);
        Due.is("ties", x.streetOf(0, 1), 3);
        for (int i = 0; i < 40; i++) {
            x.feed(0x20202020, 4);
        }
        Due.is("blanks alone", x.street(), -180);
    }

    private static void reading() {
        SomebodyWill x = Due.with("  people   4;cost 3 ;worth9; more 2;one 1 cost 05 worth 099;tie 0 2 price 7;"
            + "tie3 0;must 3;must 0");
        int[] costs = {3, 5, 3, 3};
        int[] worths = {9, 99, 9, 9};
        int[] near = {12, 0, 1, 1};
        int[] prices = {7, 0, 7, 0};
        for (int p = 0; p < 4; p++) {
            Due.is("cost of " + p, x.personOf(0, p, 0), costs[p]);
            Due.is("worth of " + p, x.personOf(0, p, 1), worths[p]);
            Due.is("near " + p, x.personOf(0, p, 2), near[p]);
            Due.is("must " + p, x.personOf(0, p, 3), p == 3 || p == 0 ? 1 : 0);
            Due.is("way of " + p, x.personOf(0, p, 4), -1);
            Due.is("prices of " + p, x.personOf(0, p, 5), prices[p]);
        }
        int[] due = {4, 2, 2, 9, 7};
        for (int what = 0; what < 5; what++) {
            Due.is("streetOf(0, " + what + ")", x.streetOf(0, what), due[what]);
        }
        SomebodyWill y = Due.with("people 12;all", "people 1;all", "people 3;ring", "people4;tie 0 1 price3;ring;tie 1 2price 09");
        Due.is("ties of 12", y.streetOf(0, 1), 66);
        Due.is("near 11", y.personOf(0, 11, 2), 2047);
        Due.is("ties of 1", y.streetOf(1, 1), 0);
        Due.is("ties of 3", y.streetOf(2, 1), 3);
        Due.is("ring's prices stay", y.streetOf(3, 4), 12);
        Due.is("ring's ties", y.streetOf(3, 1), 4);
        Due.is("ring: near the last", y.personOf(3, 3, 2), 5);
    }

    private static void fault(String text, int place) {
        SomebodyWill x = new SomebodyWill();
        Due.feed(x, text);
        Due.refusesAs(x, -20 - place, -2, "street() of '" + text + "'", x::street);
        Due.is("status(0) behind '" + text + "'", x.status(0), 0);
        Due.is("status(1) behind '" + text + "'", x.status(1), 0);
        Due.is("a street then", Due.read(x, "people 2;all"), 0);
        Due.is("its ties", x.streetOf(0, 1), 1);
    }

    private static void faults() {
        fault("", 0);
        fault("   ", 3);
        fault("people", 6);
        fault("people  ", 8);
        fault("people 0", 7);
        fault("people 13", 7);
        fault("people 0012", 7);
        fault("people 3;ring;", 14);
        fault(" people 3; ", 11);
        fault(";people 3", 0);
        fault("cost 3;people 3", 0);
        fault("peoples 3", 0);
        fault("peopl 3", 0);
        fault("People 3", 0);
        fault("people 3 4", 9);
        fault("people 3 cost 4", 9);
        fault("people 3;;cost 4", 9);
        fault("people 3;people 3", 9);
        fault("people 3a", 8);
        fault("people ;", 7);
        fault("people 3;cost 100", 14);
        fault("people 3;cost 0001", 14);
        fault("people 3;cost -1", 14);
        fault("people 3;cost", 13);
        fault("people 3;worth 100", 15);
        fault("people 3;worth cost", 15);
        fault("people 3;more 10", 14);
        fault("people 3;more", 13);
        fault("people 3;one 3 cost 1 worth 1", 13);
        fault("people 3;one 1 worth 1 cost 1", 15);
        fault("people 3;one 1 cost 100 worth 1", 20);
        fault("people 3;one 1 cost 1", 21);
        fault("people 3;one 1 cost 1;worth 1", 21);
        fault("people 3;one 1 cost 1 worth 100", 28);
        fault("people 3;one 1 cost 1 worth", 27);
        fault("people 3;tie", 12);
        fault("people 3;tie 3 1", 13);
        fault("people 3;tie 1 3", 15);
        fault("people 3;tie 1 1", 15);
        fault("people 3;tie 1 001", 15);
        fault("people 3;tie 1;tie 1 2", 14);
        fault("people 3;tie 1 2 prices 3", 17);
        fault("people 3;tie 1 2 price", 22);
        fault("people 3;tie 1 2 price 10", 23);
        fault("people 3;tie 1 2 price 3 4", 25);
        fault("people 3;tie 1 2 3", 17);
        fault("people 3;must 3", 14);
        fault("people 3;must", 13);
        fault("people 3;must 1 2", 16);
        fault("people 2;ring", 9);
        fault("people 1;ring", 9);
        fault("people 3;ring 3", 14);
        fault("people 3;all all", 13);
        fault("people 3;nothing", 9);
        fault("people 3;17", 9);
        fault("people 3;costs 4", 9);
        fault("people 3;cos 4", 9);
        fault("people 3;cost\t4", 13);
        fault("people 3,cost 4", 8);
        fault("people 3;all\u00e9", 12);
        fault("people 3;all`", 12);
        fault("people 3;all{", 12);
        fault("people 3;all/", 12);
        fault("people 3;all:", 12);
        fault("people 3;cost 4!;ring 5", 15);
        fault("people 3;allz", 9);
        fault("people 3;alla", 9);
        fault("people 3;cost;all", 13);
        fault("people 3;worth;all", 14);
        fault("people 3;more;all", 13);
        fault("people 3;one;all", 12);
        fault("people 3;one 1;all", 14);
        fault("people 3;one 1 cost;all", 19);
        fault("people 3;one 1 cost 1 worth;all", 27);
        fault("people 3;tie;all", 12);
        fault("people 3;tie 0 1 price;all", 22);
        fault("people 3;must;all", 13);
    }

    private static void noughts() {
        SomebodyWill x = Due.with("people 3;cost 5;worth 5;more 5;one 0 cost 0 worth 0;must 0;tie 0 1 price 0;tie 1 2 price 9",
            "people 3;cost 9;cost 0;worth 9;worth 0;more 9;more 0;tie 1 0 price 2;tie 0 1 price 0");
        Due.is("cost of one", x.personOf(0, 0, 0), 0);
        Due.is("worth of one", x.personOf(0, 0, 1), 0);
        Due.is("musts", x.streetOf(0, 3), 1);
        Due.is("prices", x.streetOf(0, 4), 9);
        Due.is("ties", x.streetOf(0, 1), 2);
        Due.is("cost of all", x.personOf(1, 1, 0), 0);
        Due.is("worth of all", x.personOf(1, 1, 1), 0);
        Due.is("more", x.streetOf(1, 2), 0);
        Due.is("prices of two", x.streetOf(1, 4), 0);
    }

    /** Nothing of a text with a FAULT, nor of a STREET that is gone by back(), stays in the next STREET. */
    private static void nothingStays() {
        String full = "people 12;cost 5;worth 6;more 3;all;tie 0 1 price 5;tie 9 10 price 4;must 3;must 11";
        SomebodyWill x = new SomebodyWill();
        Due.is("with a fault", Due.read(x, full + "?"), -20 - full.length());
        blank(x, Due.read(x, "people 12"));
        x = new SomebodyWill();
        x.image();
        Due.is("a street", Due.read(x, full), 0);
        x.way(0, 2, 500);
        for (int p = 0; p < 12; p++) {
            x.take(0, p, 0);
        }
        x.back();
        blank(x, Due.read(x, "people 12"));
    }

    private static void blank(SomebodyWill x, int street) {
        Due.is("the next street", street, 0);
        int[] due = {12, 0, 0, 0, 0};
        for (int what = 0; what < 5; what++) {
            Due.is("streetOf(0, " + what + ")", x.streetOf(0, what), due[what]);
        }
        for (int p = 0; p < 12; p++) {
            for (int what = 0; what < 6; what++) {
                Due.is("personOf(0, " + p + ", " + what + ")", x.personOf(0, p, what), what == 4 ? -1 : 0);
            }
        }
        x.tie(0, 0, 1, 0);
        Due.is("a new tie's price", x.personOf(0, 0, 5), 0);
    }

    private static void laterCounts() {
        SomebodyWill x = Due.with("people 3;one 1 cost 4 worth 5;cost 7;more 3;more 1;tie 0 1 price 5;tie 1 0",
            "people 3;cost 7;one 1 cost 4 worth 5;worth 2;tie 0 1;tie 0 1 price 6;all;must 1;must 1");
        Due.is("cost told later", x.personOf(0, 1, 0), 7);
        Due.is("worth stays", x.personOf(0, 1, 1), 5);
        Due.is("worth at first", x.personOf(0, 0, 1), 0);
        Due.is("more told later", x.streetOf(0, 2), 1);
        Due.is("price told later", x.streetOf(0, 4), 0);
        Due.is("one tie", x.streetOf(0, 1), 1);
        Due.is("cost of one told later", x.personOf(1, 1, 0), 4);
        Due.is("cost of another", x.personOf(1, 2, 0), 7);
        Due.is("worth of all told later", x.personOf(1, 1, 1), 2);
        Due.is("more at first", x.streetOf(1, 2), 0);
        Due.is("all leaves prices", x.streetOf(1, 4), 6);
        Due.is("all's ties", x.streetOf(1, 1), 3);
        Due.is("musts", x.streetOf(1, 3), 2);
        Due.is("cost at first", Due.with("people 2").personOf(0, 0, 0), 0);
    }

    private static void fourStreets() {
        SomebodyWill x = Due.with("people 1", "people 2", "people 3", "people 4");
        Due.feed(x, "people 99");
        Due.refuses(x, -6, "a fifth street", x::street);
        Due.is("the tape stays", x.status(1), 9);
        Due.is("status(0)", x.status(0), 4);
        for (int i = 0; i < 4; i++) {
            Due.is("persons of " + i, x.streetOf(i, 0), i + 1);
        }
    }
}
