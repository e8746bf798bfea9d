import java.util.ArrayList;

/** Promises 19 to 33, 38 to 44 and 50 against the document's own words, on many streets. */
public final class ModelTest {
    private static int seed = 20261119;

    private int n;
    private int more;
    private int[] cost;
    private int[] worth;
    private boolean[][] near;
    private int[][] price;
    private boolean[] must;
    private final ArrayList<Integer> rests = new ArrayList<>();

    private static int longestRing = 0;
    private static int ringsWithTail = 0;
    private static int without = 0;
    private static final int[] found = new int[6];

    public static void main(String[] args) {
        for (int run = 0; run < 500; run++) {
            new ModelTest().compare(run);
        }
        Due.is("rings of more than two rounds are met", longestRing > 2 ? 1 : 0, 1);
        Due.is("rings that come later are met", ringsWithTail > 0 ? 1 : 0, 1);
        Due.is("streets without a rest are met", without > 3 ? 1 : 0, 1);
        for (int i = 0; i < found.length; i++) {
            Due.is("kind " + i + " of answers is met", found[i] > 0 ? 1 : 0, 1);
        }
        Due.end();
    }

    private static int below(int k) {
        seed = seed * 1103515245 + 12345;
        return (seed >>> 16) % k;
    }

    private SomebodyWill make(int run) {
        n = run % 50 == 49 ? 9 : 1 + below(7);
        more = below(10);
        cost = new int[n];
        worth = new int[n];
        near = new boolean[n][n];
        price = new int[n][n];
        must = new boolean[n];
        SomebodyWill x = Due.with("people " + n + ";more " + more);
        int least = below(3) == 0 ? 0 : below(9);
        for (int p = 0; p < n; p++) {
            cost[p] = least + below(9);
            worth[p] = below(14);
            if (run % 3 == 0) {
                makeContrary(p);
            }
            x.alter(0, p, 0, cost[p]);
            x.alter(0, p, 1, worth[p]);
            if (below(run % 3 == 0 ? 20 : 9) == 0) {
                must[p] = true;
                x.must(0, p, true);
            }
        }
        int often = 1 + below(4);
        int dear = below(2) == 0 ? 1 : 4;
        for (int a = 0; a < n; a++) {
            for (int b = 0; b < a; b++) {
                if (below(5) < often) {
                    near[a][b] = near[b][a] = true;
                    price[a][b] = price[b][a] = below(dear);
                    x.tie(0, a, b, price[a][b]);
                }
            }
        }
        return x;
    }

    /** One who does if nobody near does, or one who does if somebody near does: of these RINGS are made. */
    private void makeContrary(int p) {
        boolean follows = below(2) == 0;
        cost[p] = follows ? more - 1 : more + 1;
        worth[p] = follows ? more - 2 : more + 3;
        cost[p] = Math.max(0, cost[p]);
        worth[p] = Math.max(0, worth[p]);
    }

    private static boolean in(int p, int set) {
        return (set >> p) % 2 == 1;
    }

    private static int size(int set) {
        int k = 0;
        for (int p = 0; p < 12; p++) {
            k += in(p, set) ? 1 : 0;
        }
        return k;
    }

    private int musts() {
        int set = 0;
        for (int p = 0; p < n; p++) {
            set += must[p] ? 1 << p : 0;
        }
        return set;
    }

    private boolean hasMusts(int set) {
        for (int p = 0; p < n; p++) {
            if (must[p] && !in(p, set)) {
                return false;
            }
        }
        return true;
    }

    private int gain(int p, int set) {
        int helpers = 0;
        int prices = 0;
        for (int q = 0; q < n; q++) {
            if ((q == p || near[p][q]) && in(q, set)) {
                helpers++;
            }
            if (near[p][q]) {
                prices += price[p][q];
            }
        }
        int sum = helpers > 0 ? worth[p] + more * (helpers - 1) : 0;
        return sum - (in(p, set) ? cost[p] : 0) - prices;
    }

    private int good(int set) {
        int sum = 0;
        for (int p = 0; p < n; p++) {
            sum += gain(p, set);
        }
        return sum;
    }

    private int change(int p, int set) {
        return in(p, set) ? set - (1 << p) : set + (1 << p);
    }

    private boolean would(int p, int set) {
        return !must[p] && gain(p, change(p, set)) > gain(p, set);
    }

    private int judge(int set) {
        for (int p = 0; p < n; p++) {
            if (would(p, set) || must[p] && !in(p, set)) {
                return p;
            }
        }
        return -1;
    }

    private void findRests() {
        rests.clear();
        for (int set = 0; set < 1 << n; set++) {
            if (judge(set) == -1) {
                rests.add(set);
            }
        }
    }

    private int cost(int set) {
        int sum = 0;
        for (int p = 0; p < n; p++) {
            sum += in(p, set) ? cost[p] : 0;
        }
        return sum;
    }

    private int fewest() {
        int chosen = -1;
        for (int set : rests) {
            chosen = chosen < 0 || size(set) < size(chosen) ? set : chosen;
        }
        return chosen;
    }

    private void compare(int run) {
        SomebodyWill x = make(run);
        String told = " of run " + run;
        findRests();
        Due.is("count" + told, x.count(0), rests.size());
        for (int i = 0; i < rests.size() && i < 20; i++) {
            Due.is("rest " + i + told, x.rest(0, i), rests.get(i));
        }
        Due.is("rest behind the last" + told, x.rest(0, rests.size()), -2);
        chosen(x, told);
        Due.is("begin" + told, x.begin(0), 1 << n);
        Due.is("step" + told, x.step(999), rests.size());
        Due.is("less" + told, x.less(0), less());
        for (int k = 0; k < 8; k++) {
            int set = below(1 << n);
            of(x, set, told + ", set " + set);
        }
    }

    private void chosen(SomebodyWill x, String told) {
        int most = -1;
        int cheap = -1;
        int best = -1;
        int worst = -1;
        for (int set : rests) {
            most = most < 0 || size(set) > size(most) ? set : most;
            cheap = cheap < 0 || cost(set) < cost(cheap) ? set : cheap;
            best = best < 0 || good(set) > good(best) ? set : best;
            worst = worst < 0 || good(set) < good(worst) ? set : worst;
        }
        int good = -1;
        for (int set = 0; set < 1 << n; set++) {
            if (hasMusts(set) && (good < 0 || good(set) > good(good))) {
                good = set;
            }
        }
        Due.is("fewest" + told, x.fewest(0), fewest());
        Due.is("most" + told, x.most(0), most);
        Due.is("cheap" + told, x.cheap(0), cheap);
        Due.is("best" + told, x.best(0), best);
        Due.is("good" + told, x.good(0), good);
        Due.is("lost" + told, x.lost(0), best < 0 ? -1 : good(good) - good(best));
        Due.is("beside" + told, x.beside(0), best < 0 ? -1 : good(good) - good(worst));
        without += best < 0 ? 1 : 0;
    }

    private int less() {
        if (rests.isEmpty()) {
            return -5;
        }
        int now = size(fewest());
        int answer = -1;
        for (int a = 0; a < n && answer < 0; a++) {
            for (int b = a + 1; b < n && answer < 0; b++) {
                if (!near[a][b]) {
                    near[a][b] = near[b][a] = true;
                    findRests();
                    near[a][b] = near[b][a] = false;
                    answer = !rests.isEmpty() && size(fewest()) < now ? 100 * a + b : -1;
                }
            }
        }
        findRests();
        found[0] += answer >= 0 ? 1 : 0;
        return answer;
    }

    private void of(SomebodyWill x, int set, String told) {
        Due.is("total" + told, x.total(0, set), good(set));
        Due.is("judge" + told, x.judge(0, set), judge(set));
        int pay = 0;
        int few = 0;
        for (int p = 0; p < n; p++) {
            Due.is("gain of " + p + told, x.gain(0, p, set), gain(p, set));
            int need = would(p, set) ? gain(p, change(p, set)) - gain(p, set) : 0;
            Due.is("need of " + p + told, x.need(0, p, set), need);
            pay += need;
            few += need > 0 ? 1 : 0;
        }
        Due.is("pay" + told, x.pay(0, set), hasMusts(set) ? pay : -5);
        Due.is("few" + told, x.few(0, set), hasMusts(set) ? few : -5);
        found[1] += pay;
        inTurn(x, set | musts(), set, told);
        int at = below(10);
        Due.is("cuts" + told, x.cuts(0, set), cuts(set));
        Due.is("adds at " + at + told, x.adds(0, set, at), adds(set, at));
        rota(x, told);
    }

    private void inTurn(SomebodyWill x, int from, int asked, String told) {
        ArrayList<Integer> behind = new ArrayList<>();
        int set = from;
        int changes = 0;
        int ring = 0;
        behind.add(set);
        while (true) {
            boolean changed = false;
            for (int p = 0; p < n; p++) {
                if (would(p, set)) {
                    set = change(p, set);
                    changes++;
                    changed = true;
                }
            }
            if (!changed) {
                break;
            }
            int earlier = behind.indexOf(set);
            if (earlier >= 0) {
                ring = behind.size() - earlier;
                ringsWithTail += earlier > 0 ? 1 : 0;
                break;
            }
            behind.add(set);
        }
        longestRing = Math.max(longestRing, ring);
        Due.is("go" + told, x.go(0, asked), ring > 0 ? -5 : set);
        x.ring(0, below(1 << n));
        Due.is("turns" + told, x.turns(0, asked), changes);
        x.go(0, below(1 << n));
        Due.is("ring" + told, x.ring(0, asked), ring);
    }

    private int cuts(int set) {
        for (int a = 0; a < n; a++) {
            for (int b = a + 1; b < n; b++) {
                if (near[a][b]) {
                    int ga = gain(a, set);
                    int gb = gain(b, set);
                    near[a][b] = near[b][a] = false;
                    boolean gains = gain(a, set) > ga || gain(b, set) > gb;
                    near[a][b] = near[b][a] = true;
                    if (gains) {
                        found[2]++;
                        return 100 * a + b;
                    }
                }
            }
        }
        return -1;
    }

    private int adds(int set, int at) {
        for (int a = 0; a < n; a++) {
            for (int b = a + 1; b < n; b++) {
                if (!near[a][b]) {
                    int ga = gain(a, set);
                    int gb = gain(b, set);
                    int ahead = price[a][b];
                    near[a][b] = near[b][a] = true;
                    price[a][b] = price[b][a] = at;
                    boolean gain = gain(a, set) > ga && gain(b, set) > gb;
                    near[a][b] = near[b][a] = false;
                    price[a][b] = price[b][a] = ahead;
                    if (gain) {
                        found[3]++;
                        return 100 * a + b;
                    }
                }
            }
        }
        return -1;
    }

    private void rota(SomebodyWill x, String told) {
        int days = 1 + below(4);
        int[] sets = new int[days];
        x.row(0, 1, days);
        for (int day = 0; day < days; day++) {
            sets[day] = below(1 << n);
            x.set(0, day, sets[day]);
        }
        int answer = -1;
        for (int p = 0; p < n && answer < 0; p++) {
            int with = 0;
            int apart = 0;
            for (int set : sets) {
                int doing = set | musts();
                with += gain(p, doing);
                apart += gain(p, in(p, doing) ? change(p, doing) : doing);
            }
            answer = !must[p] && apart > with ? p : -1;
        }
        found[answer < 0 ? 4 : 5]++;
        Due.is("rota" + told, x.rota(0, 0, days), answer);
    }
}
