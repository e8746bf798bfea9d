/** Promises 49 to 54: a SEARCH, what is kept, and status. */
public final class KeptTest {
    private static final String STAR = "people 4;cost 2;worth 7;tie 0 1;tie 0 2;tie 0 3";

    public static void main(String[] args) {
        searches();
        asItWas();
        searchesRefused();
        images();
        imagesOfSearches();
        statuses();
        Due.end();
    }

    private static void seen(SomebodyWill x, int street, int next, int rests, int last, int done) {
        int[] due = {street, next, rests, last, done};
        for (int what = 0; what < 5; what++) {
            Due.is("search(" + what + ")", x.search(what), due[what]);
        }
    }

    private static void searches() {
        SomebodyWill x = Due.with("people 1", STAR);
        Due.is("begin(1)", x.begin(1), 16);
        seen(x, 1, 0, 0, -1, 0);
        Due.is("step(1)", x.step(1), 0);
        seen(x, 1, 1, 0, -1, 0);
        Due.is("step(1)", x.step(1), 1);
        seen(x, 1, 2, 1, 1, 0);
        Due.is("step(12)", x.step(12), 0);
        seen(x, 1, 14, 1, 1, 0);
        Due.is("step(999)", x.step(999), 1);
        seen(x, 1, 16, 2, 14, 1);
        Due.refuses(x, -5, "step when done", () -> x.step(1));
        Due.refuses(x, -2, "step(0) when done", () -> x.step(0));
        seen(x, 1, 16, 2, 14, 1);
        Due.is("another: begin(0)", x.begin(0), 2);
        seen(x, 0, 0, 0, -1, 0);
        Due.is("just to the last", x.step(2), 2);
        seen(x, 0, 2, 2, 1, 1);
        Due.is("begin(1)", x.begin(1), 16);
        Due.is("step(5)", x.step(5), 1);
        Due.is("given up", x.begin(1), 16);
        seen(x, 1, 0, 0, -1, 0);
        x.must(1, 1, true);
        x.begin(1);
        Due.is("one that must", x.step(16), 1);
        seen(x, 1, 16, 1, 14, 1);
        SomebodyWill y = Due.with("people 12;cost 3;worth 3");
        Due.is("begin of 12", y.begin(0), 4096);
        for (int i = 0; i < 4; i++) {
            Due.is("step(999)", y.step(999), 999);
        }
        Due.is("the last step", y.step(999), 100);
        seen(y, 0, 4096, 4096, 4095, 1);
    }

    private static void asItWas() {
        SomebodyWill x = Due.with(STAR);
        x.begin(0);
        x.must(0, 1, true);
        x.tie(0, 0, 3, -1);
        x.alter(0, 0, 0, 99);
        x.come(0, 15, 1, 1);
        Due.is("by the street as it was", x.step(99), 2);
        seen(x, 0, 16, 2, 14, 1);
        Due.is("by the street as it is", x.begin(0), 32);
    }

    private static void searchesRefused() {
        SomebodyWill x = Due.with(STAR);
        Due.refuses(x, -2, "step(0), none under way", () -> x.step(0));
        Due.refuses(x, -2, "step(1000), none under way", () -> x.step(1000));
        Due.refuses(x, -5, "step(1), none under way", () -> x.step(1));
        Due.refuses(x, -2, "search(-1), none under way", () -> x.search(-1));
        Due.refuses(x, -2, "search(5), none under way", () -> x.search(5));
        for (int what = 0; what < 5; what++) {
            int asked = what;
            Due.refuses(x, -5, "search(" + what + "), none under way", () -> x.search(asked));
        }
        x.begin(0);
        x.step(3);
        Due.refuses(x, -2, "begin(-1)", () -> x.begin(-1));
        Due.refuses(x, -2, "begin(1)", () -> x.begin(1));
        Due.refuses(x, -2, "step(0)", () -> x.step(0));
        Due.refuses(x, -2, "step(-1)", () -> x.step(-1));
        Due.refuses(x, -2, "step(1000)", () -> x.step(1000));
        Due.refuses(x, -2, "search(5)", () -> x.search(5));
        Due.refuses(x, -2, "search(-1)", () -> x.search(-1));
        seen(x, 0, 3, 1, 1, 0);
    }

    private static void images() {
        SomebodyWill x = Due.with(STAR);
        Due.refuses(x, -5, "back() to nothing", x::back);
        x.way(0, 2, 300);
        x.take(0, 1, 0);
        x.know(2, 7);
        x.seed(99);
        Due.feed(x, "peo");
        long[] kept = Due.look(x);
        Due.is("image()", x.image(), 1);
        Due.same("behind image()", kept, Due.look(x));
        x.alter(0, 0, 0, 44);
        x.alter(0, 0, 1, 44);
        x.tie(0, 1, 2, 4);
        x.must(0, 3, true);
        x.take(0, 1, -1);
        x.take(0, 2, 0);
        x.come(0, 7, 1, 1);
        x.know(2, 1);
        x.doers(0, 0);
        Due.is("the seed moved", x.status(2) == 99 ? 1 : 0, 0);
        x.wipe();
        Due.read(x, "people 9");
        Due.refuses(x, -2, "refused behind the image", () -> x.count(7));
        int[] refused = Due.refusals(x);
        Due.feed(x, "peo");
        Due.is("back()", x.back(), 1);
        Due.same("behind back()", kept, Due.look(x));
        Due.is("refusals stay", x.status(12), refused[0]);
        Due.is("refusals stay", x.status(15), refused[3]);
        Due.is("status(0)", x.status(0), 1);
        Due.is("known again", x.know(2, 7), 7);
        Due.is("no search was kept", x.search(0), -5);
        notKept(x);
        keptOfOthers();
    }

    /** THE TAPE and SHELVES stay as they are; it is kept still, till the next image. */
    private static void notKept(SomebodyWill x) {
        Due.feed(x, "ple 3");
        x.row(5, 1, 2);
        x.way(0, 3, 4);
        Due.is("back() again", x.back(), 1);
        Due.is("the tape stays", x.status(1), 8);
        Due.is("a shelf stays", x.holds(5), 1);
        Due.is("a way stays", x.holds(0), 13);
        Due.is("he has the way that he had", x.personOf(0, 1, 4), 2);
        Due.is("the tape is a street", x.street(), 1);
        x.alter(0, 0, 0, 55);
        x.begin(1);
        x.image();
        x.alter(0, 0, 0, 66);
        x.back();
        Due.is("what was kept later", x.personOf(0, 0, 0), 55);
        Due.is("streets kept later", x.status(0), 2);
        Due.is("a search kept later", x.search(0), 1);
    }

    private static void keptOfOthers() {
        SomebodyWill y = Due.with("people 1");
        y.image();
        y.begin(0);
        y.back();
        Due.is("no search again", y.step(1), -5);
        SomebodyWill v = Due.with("people 1");
        v.way(0, 2, 300);
        v.take(0, 0, 0);
        v.image();
        v.way(0, 2, 400);
        v.take(0, 0, 0);
        Due.is("by the later way", v.light(0, 1), 600000);
        v.back();
        Due.is("by the way that he had", v.light(0, 1), 700000);
        SomebodyWill z = new SomebodyWill();
        z.image();
        Due.read(z, "people 2");
        Due.is("back to no street", z.back(), 1);
        Due.is("no street", z.streetOf(0, 0), -2);
        Due.is("the next is the first again", Due.read(z, "people 3"), 0);
        Due.is("its persons", z.streetOf(0, 0), 3);
        SomebodyWill w = Due.with(STAR);
        w.begin(0);
        w.step(4);
        w.image();
        w.alter(0, 0, 0, 99);
        w.begin(0);
        w.step(16);
        w.back();
        Due.is("the search's rests", w.search(2), 1);
        Due.is("the search's street as it was", w.step(99), 1);
    }

    private static void imagesOfSearches() {
        SomebodyWill x = Due.with("people 1", STAR);
        x.begin(1);
        x.step(3);
        x.image();
        x.step(99);
        x.begin(0);
        x.back();
        seen(x, 1, 3, 1, 1, 0);
        Due.is("and on", x.step(99), 1);
        seen(x, 1, 16, 2, 14, 1);
        x.back();
        seen(x, 1, 3, 1, 1, 0);
    }

    private static void statuses() {
        SomebodyWill x = Due.with(STAR);
        x.row(0, 0, 0);
        x.way(7, 1, 1);
        x.way(7, 1, 1);
        Due.feed(x, "ab");
        int[] due = {1, 2, 1, 2};
        for (int what = 0; what < 4; what++) {
            Due.is("status(" + what + ")", x.status(what), due[what]);
        }
        x.row(-1, 0, 0);
        x.row(-1, 0, 0);
        x.row(-1, 0, 0);
        x.set(7, 0, 0);
        x.set(7, 0, 0);
        x.set(3, 0, 0);
        x.back();
        x.step(1);
        x.step(1);
        x.step(1);
        for (int i = 0; i < 50; i++) {
            x.feed(0, 4);
        }
        int[] refused = {3, 2, 1, 4, 50 - 39};
        for (int i = 0; i < 5; i++) {
            Due.is("status(" + (12 + i) + ")", x.status(12 + i), refused[i]);
        }
        for (int what : new int[] {-1, 4, 5, 11, 17, 100, Integer.MAX_VALUE, Integer.MIN_VALUE}) {
            Due.is("status(" + what + ")", x.status(what), -1);
        }
        Due.is("a what that is none is not refused", x.status(12), 3);
    }
}
