/** Promises 31 to 33: IN TURN, and RINGS. */
public final class TurnsTest {
    private static final String STAR = "people 4;cost 2;worth 7;tie 0 1;tie 0 2;tie 0 3";
    private static final String CHASE = "people 2;more 5;one 0 cost 7 worth 9;one 1 cost 3 worth 2;all";
    private static final String STILL = "people 3;cost 3;worth 3;all";

    public static void main(String[] args) {
        ends();
        rings();
        refused();
        Due.end();
    }

    private static void course(SomebodyWill x, int street, int from, int end, int changes, int rounds) {
        String told = "(" + street + ", " + from + ")";
        if (rounds == 0) {
            Due.is("go" + told, x.go(street, from), end);
        } else {
            Due.refuses(x, -5, "go" + told, () -> x.go(street, from));
        }
        Due.is("turns" + told, x.turns(street, from), changes);
        Due.is("ring" + told, x.ring(street, from), rounds);
    }

    private static void ends() {
        SomebodyWill x = Due.with(STAR, STILL, "people 5;cost 3;worth 9;ring");
        course(x, 0, 0, 1, 1, 0);
        course(x, 0, 1, 1, 0, 0);
        course(x, 0, 3, 14, 3, 0);
        course(x, 0, 15, 14, 1, 0);
        course(x, 0, 2, 14, 2, 0);
        course(x, 1, 0, 0, 0, 0);
        course(x, 1, 7, 4, 2, 0);
        course(x, 2, 0, 5, 2, 0);
        course(x, 2, 31, 18, 5, 0);
        x.must(0, 1, true);
        course(x, 0, 0, 14, 2, 0);
        course(x, 0, 1, 14, 3, 0);
        Due.is("none is refused but RINGS", x.status(15), 0);
    }

    private static void rings() {
        SomebodyWill x = Due.with(CHASE);
        course(x, 0, 0, -5, 4, 2);
        course(x, 0, 1, -5, 5, 2);
        course(x, 0, 2, -5, 5, 2);
        course(x, 0, 3, -5, 4, 2);
        Due.is("they are refused by go alone", x.status(15), 4);
        x.must(0, 0, true);
        course(x, 0, 0, 3, 1, 0);
        x.must(0, 0, false);
        x.must(0, 1, true);
        course(x, 0, 0, 2, 0, 0);
        course(x, 0, 1, 2, 1, 0);
    }

    private static void refused() {
        SomebodyWill x = Due.with(STAR);
        int[][] sets = {{-1, 0}, {1, 0}, {0, -1}, {0, 16}};
        for (int[] b : sets) {
            Due.refuses(x, -2, "go(" + b[0] + ", " + b[1] + ")", () -> x.go(b[0], b[1]));
            Due.refuses(x, -2, "turns(" + b[0] + ", " + b[1] + ")", () -> x.turns(b[0], b[1]));
            Due.refuses(x, -2, "ring(" + b[0] + ", " + b[1] + ")", () -> x.ring(b[0], b[1]));
        }
    }
}
