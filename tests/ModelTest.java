import java.lang.reflect.InvocationTargetException;
import java.lang.reflect.Method;
import java.util.HashMap;
import java.util.Map;
import java.util.TreeSet;

/**
 * All promises at once: long runs of any calls, and all that can be asked of one STREET, each answer against
 * that of the model.
 */
public final class ModelTest {
    /** What later calls answer is free. */
    private static final int CALLS = 512;
    private static final int RUNS = 240;
    private static final int CROWDS = 600;
    private static final int[] ODD = {
        Integer.MIN_VALUE, -1000001, -100, -21, -2, -1, 0, 1, 2, 3, 4, 5, 6, 7, 8, 9, 10, 11, 12, 13, 20, 21, 39, 40, 41, 98, 99, 100,
        101, 110, 160, 199, 255, 500, 501, 901, 908, 909, 998, 999, 1000, 1001, 2048, 4095, 4096, 65535, 65536, 1000000, 1000001,
        Integer.MAX_VALUE
    };
    /** The calls, some more than once as they are wanted more often; a sign for what each argument is, as number() has it. */
    private static final String[] MADE = {
        "row hSr", "set hrv", "set hpv", "set hpv", "copy hhppp", "element hp", "holds h", "way hkk", "way h2k", "way h4t", "way h5h",
        "says hk", "says hk", "feed v4", "wipe", "streetOf sw", "personOf snw", "personOf snw", "alter snbc", "alter snbm", "tie snnx",
        "tie snnx", "must snf", "must snf", "take snh", "take snh", "come sdcc", "gain snd", "total sd", "judge sd", "judge sd",
        "count s", "rest si", "fewest s", "most s", "cheap s", "best s", "good s", "lost s", "beside s", "go sd", "go sd", "turns sd",
        "ring sd", "lot cc5", "lot mm5", "nobody cm5", "know 5r", "know 5r", "bar cm", "bar mc", "cuts sd", "adds sdx", "less s",
        "need snd", "pay sd", "few sd", "rota shq", "rota shq", "doers sy", "doers sy", "light so", "late sl", "seed v", "begin s", "step e",
        "step q", "search w", "search w", "image", "back", "status u", "status u"
    };
    /** The first does if he is alone, the second if he isn't: neither rests. */
    private static final String CHASE = "more 5;tie 0 1;one 0 cost 6 worth 9;one 1 cost 3 worth 0";
    private static final Map<String, Method> FACE = methods(SomebodyWill.class);
    private static final Map<String, Method> MODEL = methods(Model.class);
    /** Which calls were refused by which number, or answered otherwise. */
    private static final TreeSet<String> met = new TreeSet<>();

    private static int longestRing = 0;
    private static int ringsThatComeLater = 0;
    private static int streetsWithoutRest = 0;

    private final SomebodyWill x = new SomebodyWill();
    private final Model model = new Model();
    private final int run;
    private int seed;
    private int calls;

    private ModelTest(int run) {
        this.run = run;
        seed = run * 7919 + 17;
    }

    public static void main(String[] args) {
        for (int run = 0; run < RUNS; run++) {
            new ModelTest(run).anyCalls();
        }
        for (int run = 0; run < CROWDS; run++) {
            new ModelTest(run).oneCrowd();
        }
        all();
        Due.is("RINGS of more than two rounds are met", longestRing > 2 ? 1 : 0, 1);
        Due.is("RINGS that come later are met", ringsThatComeLater > 0 ? 1 : 0, 1);
        Due.is("STREETS without a REST are met", streetsWithoutRest > 3 ? 1 : 0, 1);
        Due.end();
    }

    private static Map<String, Method> methods(Class<?> c) {
        Map<String, Method> methods = new HashMap<>();
        for (Method m : c.getDeclaredMethods()) {
            if (!java.lang.reflect.Modifier.isPrivate(m.getModifiers()) && !m.isSynthetic()) {
                methods.put(m.getName(), m);
            }
        }
        return methods;
    }

    /** Each call has answered, and each that the document refuses by a number was refused by it. */
    private static void all() {
        for (String name : FACE.keySet()) {
            Due.is(name + " has answered", met.contains(name + " answers") ? 1 : 0, 1);
        }
        String bad = "row set copy way says feed street streetOf personOf alter tie must take come gain total judge count rest fewest most"
            + " cheap best good lost beside go turns ring lot nobody know bar cuts adds less need pay few rota doers light late begin step"
            + " search";
        refused(bad, -2);
        refused("set copy way says take rota", -3);
        refused("set copy way says take rota", -4);
        refused("go less pay few step search back", -5);
        refused("feed street come", -6);
    }

    private static void refused(String names, int number) {
        for (String name : names.split(" ")) {
            Due.is(name + " was refused by " + number, met.contains(name + " " + number) ? 1 : 0, 1);
        }
    }

    private int below(int k) {
        seed = seed * 1103515245 + 12345;
        return (seed >>> 16) % k;
    }

    private void anyCalls() {
        int street = 0;
        while (calls < CALLS - 8) {
            if (street < 1 + run % 4 && below(12) == 0 || below(90) == 0) {
                read();
                street++;
            } else {
                String[] made = MADE[below(MADE.length)].split(" ");
                make(made[0], made.length > 1 ? made[1] : "");
            }
        }
        for (int what = 12; what <= 16; what++) {
            call("status", what);
        }
    }

    // ---- all that can be asked of one STREET

    private void oneCrowd() {
        int n = run % 50 == 49 ? 9 : run % 3 == 0 ? 4 + below(4) : 1 + below(7);
        makeCrowd(n);
        int rests = (int) call("count", 0);
        streetsWithoutRest += rests == 0 ? 1 : 0;
        for (int i = Math.max(0, rests - 4); i <= rests; i++) {
            call("rest", 0, i);
        }
        for (String name : "fewest most cheap best good lost beside less begin".split(" ")) {
            call(name, 0);
        }
        call("step", 999);
        while (calls < CALLS - 60) {
            askOf(n, below(1 << n));
        }
    }

    private void makeCrowd(int n) {
        feed(new StringBuilder("people " + n + ";more " + below(10)));
        call("street");
        int more = model.streetOf(0, 2);
        int least = below(3) == 0 ? 0 : below(9);
        for (int p = 0; p < n; p++) {
            boolean isContrary = run % 3 == 0;
            boolean follows = below(2) == 0;
            // one who does if somebody near does, or one who does if nobody near does: of these RINGS are made
            call("alter", 0, p, 0, isContrary ? Math.max(0, follows ? more - 1 : more + 1) : least + below(9));
            call("alter", 0, p, 1, isContrary ? Math.max(0, follows ? more - 2 : more + 3) : below(14));
            call("must", 0, p, below(isContrary ? 20 : 9) == 0);
        }
        int often = 1 + below(4);
        int dear = below(2) == 0 ? 1 : 4;
        for (int a = 0; a < n; a++) {
            for (int b = 0; b < a; b++) {
                call("tie", 0, a, b, below(5) < often ? below(dear) : -1);
            }
        }
    }

    private void askOf(int n, int set) {
        for (int p = 0; p < n; p++) {
            call("gain", 0, p, set);
            call("need", 0, p, set);
        }
        for (String name : "total judge pay few turns go ring cuts".split(" ")) {
            call(name, 0, set);
        }
        call("adds", 0, set, below(10));
        longestRing = Math.max(longestRing, model.ring(0, set));
        ringsThatComeLater += model.aheadOfRing(0, set) > 0 ? 1 : 0;
        int days = 1 + below(4);
        call("row", 0, 1, days);
        for (int day = 0; day < days; day++) {
            call("set", 0, day, (long) below(1 << n));
        }
        call("rota", 0, 0, days);
    }

    // ---- any calls

    private void make(String name, String told) {
        Object[] arguments = new Object[told.length()];
        int street = 0;
        for (int i = 0; i < arguments.length; i++) {
            Class<?> type = FACE.get(name).getParameterTypes()[i];
            long v = below(25) == 0 ? ODD[below(ODD.length)] : number(told.charAt(i), street);
            street = i == 0 ? (int) v : street;
            arguments[i] = type == boolean.class ? (Object) (v == 1) : type == long.class ? (Object) v : (Object) (int) v;
        }
        call(name, arguments);
    }

    private long call(String name, Object... arguments) {
        calls++;
        try {
            long got = ((Number) FACE.get(name).invoke(x, arguments)).longValue();
            long want = ((Number) MODEL.get(name).invoke(model, arguments)).longValue();
            Due.is("run " + run + ", call " + calls + ", " + name + java.util.Arrays.toString(arguments), got, want);
            meet(name, want);
            return want;
        } catch (InvocationTargetException | IllegalAccessException thrown) {
            Due.is("run " + run + ", call " + calls + ", " + name + " threw " + thrown.getCause(), 1, 0);
            return 0;
        }
    }

    private static void meet(String name, long answer) {
        long number = name.equals("street") && answer <= -20 ? -2 : answer < -1000 ? answer + 1000000 : answer;
        met.add(name + (number <= -2 && number >= -6 ? " " + number : " answers"));
    }

    // ---- numbers that may be, mostly

    private int persons(int street) {
        return street >= 0 && street < model.status(0) ? model.streetOf(street, 0) : 3;
    }

    private long number(char what, int street) {
        switch (what) {
            case 'h': return below(8);
            case 'S': return below(5);
            case 'r': return below(21);
            case 'p': return below(14);
            case 'q': return 1 + below(9);
            case 'i': return below(4);
            case 'v': return below(2) == 0 ? below(64) : (long) below(65536) << below(50);
            case 'k': return below(7);
            case 't': return 100 * (1 + below(9)) + below(5);
            case 'w': return below(6);
            case 'n': return below(persons(street));
            case 'd': return below(1 << persons(street));
            case 'b': return below(2);
            case 'c': return below(14);
            case 'm': return 1 + below(99);
            case 'x': return below(11) - 1;
            case 'f': return below(4) == 0 ? 1 : 0;
            case 'y': return below(1000);
            case 'o': return 1 + below(99);
            case 'l': return below(2) == 0 ? below(65536) : 900000 + below(65536);
            case 'e': return 1 + below(999);
            case 'u': return below(18);
            case 's': return below(Math.max(1, model.status(0)));
            default: return what - '0' - below(2) * below(what - '0' + 1);
        }
    }

    // ---- texts

    private void read() {
        StringBuilder text = new StringBuilder();
        int n = run % 60 == 59 ? 12 : below(40) == 0 ? 7 + below(6) : 1 + below(6);
        text.append("people").append(blank()).append(n);
        for (int i = below(9); i > 0; i--) {
            text.append(blank()).append(';').append(blank()).append(statement(n));
        }
        while (below(5) == 0) {
            spoil(text);
        }
        while (text.length() > 0 && text.charAt(text.length() - 1) == ' ' && below(2) == 0) {
            text.setLength(text.length() - 1);
        }
        feed(text);
        call("street");
    }

    private String blank() {
        return " ".repeat(below(3) == 0 ? below(3) : 1);
    }

    private String number(int k) {
        int v = below(60) == 0 ? k + below(9) : below(k);
        return (below(20) == 0 ? "0".repeat(1 + below(3)) : "") + v;
    }

    private String statement(int n) {
        int greatest = below(4) == 0 ? 100 : 12;
        switch (below(11)) {
            case 0: return "cost " + number(greatest);
            case 1: return "worth " + number(greatest);
            case 2: return "more " + number(10);
            case 3: return "one " + number(n) + " cost " + number(greatest) + " worth" + number(greatest);
            case 4: return "must " + number(n);
            case 5: return "tie " + number(n) + " " + number(n);
            case 6: return "tie " + number(n) + " " + number(n) + "price " + number(10);
            case 7: return "tie 0 " + Math.max(1, n - 1);
            case 8: return n < 3 && below(4) > 0 ? "all" : "ring";
            case 9: return CHASE;
            default: return "all";
        }
    }

    private void spoil(StringBuilder text) {
        int at = below(text.length());
        switch (below(4)) {
            case 0:
                text.setCharAt(at, (char) below(256));
                break;
            case 1:
                text.deleteCharAt(at);
                text.append(' ');
                break;
            case 2:
                text.insert(at, ";a 1 zpeople".charAt(below(12)));
                break;
            default:
                text.setLength(Math.max(1, at));
                break;
        }
    }

    private void feed(StringBuilder text) {
        int i = 0;
        while (i < text.length() && calls < CALLS - 8) {
            int n = Math.min(text.length() - i, below(6) == 0 ? 1 + below(4) : 4);
            int v = below(3);
            for (int k = 0; k < n; k++) {
                v = v << 8 | text.charAt(i + k);
            }
            call("feed", v, n);
            i += n;
        }
    }
}
