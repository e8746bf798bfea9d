/** Promises 1 to 6: a new object, and ROWS. */
public final class ShelvesTest {
    public static void main(String[] args) {
        aNewObject();
        rows();
        sorts();
        refusedRows();
        settingRefused();
        copies();
        copiesRefused();
        Due.end();
    }

    private static void aNewObject() {
        SomebodyWill x = new SomebodyWill();
        Due.is("status(0)", x.status(0), 0);
        Due.is("status(1)", x.status(1), 0);
        Due.is("status(2)", x.status(2), 1);
        Due.is("status(3)", x.status(3), 0);
        for (int s = 0; s < 8; s++) {
            Due.is("holds " + s, x.holds(s), -1);
        }
        for (int what = 12; what <= 16; what++) {
            Due.is("status(" + what + ")", x.status(what), 0);
        }
        for (int d = 0; d < 6; d++) {
            Due.is("know(" + d + ", 0)", x.know(d, 0), 0);
        }
        Due.is("wipe()", x.wipe(), 0);
        Due.refuses(x, -2, "streetOf(0, 0)", () -> x.streetOf(0, 0));
        Due.refuses(x, -5, "search(0)", () -> x.search(0));
        Due.refuses(x, -5, "back()", x::back);
    }

    private static void rows() {
        SomebodyWill x = new SomebodyWill();
        Due.is("row(0, 2, 3)", x.row(0, 2, 3), 1);
        Due.is("holds(0)", x.holds(0), 2);
        Due.is("element at first", x.element(0, 2), 0);
        Due.is("set(0, 2, 7)", x.set(0, 2, 7), 1);
        Due.is("element(0, 2)", x.element(0, 2), 7);
        Due.is("element(0, 1)", x.element(0, 1), 0);
        Due.is("a new row", x.row(0, 2, 3), 1);
        Due.is("its element", x.element(0, 2), 0);
        Due.is("row of 40", x.row(7, 3, 40), 1);
        Due.is("set the last", x.set(7, 39, 5), 1);
        Due.is("element(7, 39)", x.element(7, 39), 5);
        Due.is("row of 0", x.row(1, 0, 0), 1);
        Due.is("holds(1)", x.holds(1), 0);
        Due.is("status(3)", x.status(3), 3);
        Due.is("a row where a longer one was", x.row(7, 3, 39), 1);
        Due.is("element behind it", x.element(7, 39), 0);
        Due.is("a way where a row was", x.way(7, 1, 1), 1);
        Due.is("element of a way", x.element(7, 0), 0);
        Due.is("a row where a way was", x.row(7, 4, 1), 1);
        Due.is("holds(7)", x.holds(7), 4);
        Due.is("element, no shelf", x.element(8, 0), 0);
        Due.is("element, no shelf below", x.element(-1, 0), 0);
        Due.is("element, nothing there", x.element(3, 0), 0);
        Due.is("element, place below", x.element(0, -1), 0);
        Due.is("element, place behind", x.element(0, 3), 0);
        Due.is("holds, no shelf", x.holds(8), -1);
        Due.is("holds, no shelf below", x.holds(-1), -1);
        for (int what = 12; what <= 16; what++) {
            Due.is("none refused: status(" + what + ")", x.status(what), 0);
        }
    }

    private static void sorts() {
        SomebodyWill x = new SomebodyWill();
        long v = 0x1234567890ABCDEFL;
        Due.row(x, 0, 0, 200, -129, v);
        Due.is("byte of 200", x.element(0, 0), -56);
        Due.is("byte of -129", x.element(0, 1), 127);
        Due.is("byte of the long", x.element(0, 2), (byte) 0xEF);
        Due.row(x, 1, 1, 40000, v, 127);
        Due.is("short of 40000", x.element(1, 0), 40000 - 65536);
        Due.is("short of the long", x.element(1, 1), (short) 0xCDEF);
        Due.is("short of 127", x.element(1, 2), 127);
        Due.row(x, 2, 2, 1L << 31, v);
        Due.is("int of 2^31", x.element(2, 0), Integer.MIN_VALUE);
        Due.is("int of the long", x.element(2, 1), 0x90ABCDEF);
        Due.row(x, 3, 3, v, Long.MIN_VALUE);
        Due.is("long", x.element(3, 0), v);
        Due.is("least long", x.element(3, 1), Long.MIN_VALUE);
        Due.row(x, 4, 4, 256, -1, 0, 1L << 40);
        Due.is("boolean of 256", x.element(4, 0), 1);
        Due.is("boolean of -1", x.element(4, 1), 1);
        Due.is("boolean of 0", x.element(4, 2), 0);
        Due.is("boolean of 2^40", x.element(4, 3), 1);
        for (int s = 0; s < 5; s++) {
            Due.is("holds(" + s + ")", x.holds(s), s);
        }
    }

    private static void refusedRows() {
        SomebodyWill x = new SomebodyWill();
        Due.row(x, 0, 2, 5, 6);
        long[] ahead = Due.look(x);
        Due.refuses(x, -2, "row(-1, 0, 1)", () -> x.row(-1, 0, 1));
        Due.refuses(x, -2, "row(8, 0, 1)", () -> x.row(8, 0, 1));
        Due.refuses(x, -2, "row(0, -1, 1)", () -> x.row(0, -1, 1));
        Due.refuses(x, -2, "row(0, 5, 1)", () -> x.row(0, 5, 1));
        Due.refuses(x, -2, "row(0, 0, -1)", () -> x.row(0, 0, -1));
        Due.refuses(x, -2, "row(0, 0, 41)", () -> x.row(0, 0, 41));
        Due.same("behind refused rows", ahead, Due.look(x));
    }

    private static void settingRefused() {
        SomebodyWill x = new SomebodyWill();
        Due.row(x, 0, 2, 5, 6);
        x.way(1, 1, 1);
        long[] ahead = Due.look(x);
        Due.refuses(x, -2, "set(-1, ..)", () -> x.set(-1, 0, 1));
        Due.refuses(x, -2, "set(8, ..)", () -> x.set(8, 0, 1));
        Due.refuses(x, -3, "set of a way", () -> x.set(1, -1, 1));
        Due.refuses(x, -4, "set of nothing", () -> x.set(2, -1, 1));
        Due.refuses(x, -2, "set(0, -1, 1)", () -> x.set(0, -1, 1));
        Due.refuses(x, -2, "set(0, 2, 1)", () -> x.set(0, 2, 1));
        Due.refuses(x, -2, "set(0, min, 1)", () -> x.set(0, Integer.MIN_VALUE, 1));
        Due.same("behind refused sets", ahead, Due.look(x));
    }

    private static void copies() {
        SomebodyWill x = new SomebodyWill();
        Due.row(x, 0, 2, 1, 2, 3, 4, 5);
        Due.row(x, 1, 2, 9, 9, 9);
        Due.is("copy(0, 1, 3, 1, 2)", x.copy(0, 1, 3, 1, 2), 2);
        elements(x, 1, 9, 4, 5);
        elements(x, 0, 1, 2, 3, 4, 5);
        Due.is("copy up in one row", x.copy(0, 0, 0, 1, 4), 4);
        elements(x, 0, 1, 1, 2, 3, 4);
        Due.is("copy down in one row", x.copy(0, 0, 1, 0, 4), 4);
        elements(x, 0, 1, 2, 3, 4, 4);
        Due.is("copy none", x.copy(0, 1, 5, 3, 0), 0);
        Due.is("copy none at first", x.copy(0, 1, 0, 0, 0), 0);
        elements(x, 1, 9, 4, 5);
        x.row(2, 2, 0);
        Due.is("copy none of none", x.copy(2, 2, 0, 0, 0), 0);
    }

    private static void copiesRefused() {
        SomebodyWill x = new SomebodyWill();
        Due.row(x, 0, 2, 1, 2, 3);
        Due.row(x, 1, 2, 7, 8);
        x.row(2, 1, 3);
        x.way(3, 1, 1);
        long[] ahead = Due.look(x);
        Due.refuses(x, -2, "copy from no shelf", () -> x.copy(8, 3, 0, 0, 1));
        Due.refuses(x, -2, "copy to no shelf", () -> x.copy(3, -1, 0, 0, 1));
        Due.refuses(x, -3, "copy from a way", () -> x.copy(3, 0, 0, 0, 1));
        Due.refuses(x, -3, "copy to a way", () -> x.copy(0, 3, 0, 0, 1));
        Due.refuses(x, -3, "copy from a way to nothing", () -> x.copy(3, 4, 0, 0, 1));
        Due.refuses(x, -3, "copy from nothing to a way", () -> x.copy(4, 3, 0, 0, 1));
        Due.refuses(x, -3, "copy of two sorts", () -> x.copy(0, 2, -1, 0, 1));
        Due.refuses(x, -4, "copy from nothing", () -> x.copy(4, 0, -1, 0, 1));
        Due.refuses(x, -4, "copy to nothing", () -> x.copy(0, 4, -1, 0, 1));
        Due.refuses(x, -4, "copy of nothing to nothing", () -> x.copy(4, 5, 0, 0, 1));
        Due.refuses(x, -2, "copy from below", () -> x.copy(0, 1, -1, 0, 1));
        Due.refuses(x, -2, "copy to below", () -> x.copy(0, 1, 0, -1, 1));
        Due.refuses(x, -2, "copy fewer than none", () -> x.copy(0, 1, 0, 0, -1));
        Due.refuses(x, -2, "copy from behind", () -> x.copy(0, 1, 2, 0, 2));
        Due.refuses(x, -2, "copy to behind", () -> x.copy(0, 1, 0, 1, 2));
        Due.refuses(x, -2, "copy too many", () -> x.copy(0, 1, 0, 0, Integer.MAX_VALUE));
        Due.refuses(x, -2, "copy wrapping", () -> x.copy(0, 1, 1, 0, Integer.MAX_VALUE));
        Due.refuses(x, -2, "copy none from behind", () -> x.copy(0, 1, 4, 0, 0));
        Due.refuses(x, -2, "copy none to behind", () -> x.copy(0, 1, 0, 3, 0));
        Due.same("behind refused copies", ahead, Due.look(x));
    }

    private static void elements(SomebodyWill x, int s, long... due) {
        for (int i = 0; i < due.length; i++) {
            Due.is("element(" + s + ", " + i + ")", x.element(s, i), due[i]);
        }
    }
}
