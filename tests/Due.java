import java.util.function.IntSupplier;

/** What the tests share: each prints the calls whose answer is not the one that is due. */
final class Due {
    private static int wrong = 0;

    private Due() {
    }

    static void is(String call, long got, long want) {
        if (got != want) {
            wrong++;
            System.out.println(call + " answered " + got + ", due is " + want);
        }
    }

    /** The call answers the number, and just the count of that number goes up, by one. */
    static void refuses(SomebodyWill x, int number, String call, IntSupplier made) {
        refusesAs(x, number, number, call, made);
    }

    static void refusesAs(SomebodyWill x, int answer, int number, String call, IntSupplier made) {
        int[] ahead = refusals(x);
        is(call, made.getAsInt(), answer);
        int[] behind = refusals(x);
        for (int i = 0; i < ahead.length; i++) {
            int due = ahead[i] + (number == -2 - i ? 1 : 0);
            is("behind " + call + " status(" + (12 + i) + ")", behind[i], due);
        }
    }

    static int[] refusals(SomebodyWill x) {
        int[] counts = new int[5];
        for (int i = 0; i < counts.length; i++) {
            counts[i] = x.status(12 + i);
        }
        return counts;
    }

    static void feed(SomebodyWill x, String text) {
        for (int i = 0; i < text.length(); i++) {
            x.feed(text.charAt(i), 1);
        }
    }

    /** Feeds a text, four bytes a call where it can, and has it read. */
    static int read(SomebodyWill x, String text) {
        int i = 0;
        for (; i + 4 <= text.length(); i += 4) {
            x.feed(text.charAt(i) << 24 | text.charAt(i + 1) << 16 | text.charAt(i + 2) << 8 | text.charAt(i + 3), 4);
        }
        feed(x, text.substring(i));
        return x.street();
    }

    static SomebodyWill with(String... streets) {
        SomebodyWill x = new SomebodyWill();
        for (int i = 0; i < streets.length; i++) {
            is("street() of " + streets[i], read(x, streets[i]), i);
        }
        return x;
    }

    static void row(SomebodyWill x, int s, int sort, long... elements) {
        is("row", x.row(s, sort, elements.length), 1);
        for (int i = 0; i < elements.length; i++) {
            is("set", x.set(s, i, elements[i]), 1);
        }
    }

    /** All that can be looked at in STREET 0 and beside it, but how many refusals there were. */
    static long[] look(SomebodyWill x) {
        java.util.ArrayList<Long> seen = new java.util.ArrayList<>();
        for (int what = 0; what < 4; what++) {
            seen.add((long) x.status(what));
        }
        for (int s = 0; s < 8; s++) {
            int holds = x.holds(s);
            seen.add((long) holds);
            if (holds >= 10) {
                seen.add((long) x.says(s, holds - 10));
            }
            for (int i = 0; i < 3; i++) {
                seen.add(x.element(s, i));
            }
        }
        for (int what = 0; x.status(0) > 0 && what < 5; what++) {
            seen.add((long) x.streetOf(0, what));
        }
        for (int p = 0; x.status(0) > 0 && p < x.streetOf(0, 0); p++) {
            for (int what = 0; what < 6; what++) {
                seen.add((long) x.personOf(0, p, what));
            }
        }
        long[] all = new long[seen.size()];
        for (int i = 0; i < all.length; i++) {
            all[i] = seen.get(i);
        }
        return all;
    }

    static void same(String when, long[] a, long[] b) {
        is(when + ": how much is seen", b.length, a.length);
        for (int i = 0; i < a.length && i < b.length; i++) {
            is(when + ": place " + i + " of what is seen", b[i], a[i]);
        }
    }

    static void end() {
        System.out.println(wrong == 0 ? "all answers are as due" : wrong + " answers are not as due");
        if (wrong != 0) {
            System.exit(1);
        }
    }
}
