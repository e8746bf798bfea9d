import java.lang.reflect.InvocationTargetException;
import java.lang.reflect.Method;
import java.util.ArrayList;
import java.util.HashMap;
import java.util.List;
import java.util.Map;

/**
 * Runs of calls on a new object, told as text: "row(0, 2, 40) = 1" is a call and the answer that is
 * due; without one it is just made. "tape 'people 3'" feeds a text, "read 'people 3' = 0" has it read, too.
 *
 * <p>Where BAD, OTHER, NOTHING, STATE, FULL or (of street()) FAULT and a place is due, the count of
 * this number alone must go up, by one, and nothing else may change: all that an object tells is asked
 * behind the refused call, and of a twin on which that call was not made.
 */
final class Script {
    /** What later calls answer is free. */
    private static final int CALLS = 512;
    private static final List<String> NUMBERS = List.of("BAD", "OTHER", "NOTHING", "STATE", "FULL");
    private static final Map<String, Method> FACE = face();

    private final SomebodyWill x = new SomebodyWill();
    private final String told;
    private int calls;

    private Script(String told) {
        this.told = told;
    }

    private static Map<String, Method> face() {
        Map<String, Method> face = new HashMap<>();
        for (Method m : SomebodyWill.class.getMethods()) {
            if (m.getDeclaringClass() == SomebodyWill.class) {
                face.put(m.getName(), m);
            }
        }
        return face;
    }

    static void run(String told, String... lines) {
        List<String> steps = steps(lines);
        Script script = new Script(told);
        for (int i = 0; i < steps.size(); i++) {
            String step = steps.get(i);
            long got = script.call(step);
            if (step.contains(" = ")) {
                Due.is(told + ": " + step, got, due(step));
            }
            if (number(step) >= 0) {
                refusedAlone(told, steps, i);
            }
        }
    }

    /** For many lines that differ by a number. */
    static void run(String told, List<String> lines) {
        run(told, lines.toArray(new String[0]));
    }

    /** The lines, with those of a scene ahead of them. */
    static String[] behind(String[] scene, String... lines) {
        String[] all = new String[scene.length + lines.length];
        System.arraycopy(scene, 0, all, 0, scene.length);
        System.arraycopy(lines, 0, all, scene.length, lines.length);
        return all;
    }

    // ---- what a line says

    private static List<String> steps(String... lines) {
        List<String> steps = new ArrayList<>();
        for (String line : lines) {
            boolean isRead = line.startsWith("read ");
            if (isRead || line.startsWith("tape ")) {
                feedInto(steps, line.substring(line.indexOf('\'') + 1, line.lastIndexOf('\'')));
            }
            if (isRead) {
                steps.add("street()" + line.substring(line.lastIndexOf('\'') + 1));
            } else if (!line.startsWith("tape ")) {
                steps.add(line);
            }
        }
        return steps;
    }

    private static void feedInto(List<String> steps, String text) {
        for (int i = 0; i < text.length(); i += 4) {
            int n = Math.min(4, text.length() - i);
            int v = 0;
            for (int k = 0; k < n; k++) {
                v = v << 8 | text.charAt(i + k);
            }
            steps.add("feed(" + v + ", " + n + ")");
        }
    }

    private static String answer(String step) {
        int at = step.indexOf(" = ");
        return at < 0 ? "" : step.substring(at + 3);
    }

    /** Which REFUSAL is due, 0 for BAD and on; -1: none. */
    private static int number(String step) {
        String answer = answer(step);
        return answer.startsWith("FAULT") ? 0 : NUMBERS.indexOf(answer);
    }

    private static long due(String step) {
        String answer = answer(step);
        if (answer.equals("NONE")) {
            return -1;
        }
        if (answer.startsWith("FAULT ")) {
            return -20 - Integer.parseInt(answer.substring(6));
        }
        int number = number(step);
        if (number >= 0) {
            boolean tellsGains = step.startsWith("gain(") || step.startsWith("total(");
            return (tellsGains ? -1000000 : 0) - 2 - number;
        }
        return Long.parseLong(answer);
    }

    // ---- calls

    private long call(String step) {
        int open = step.indexOf('(');
        int close = step.indexOf(')');
        Method m = FACE.get(step.substring(0, open));
        String between = step.substring(open + 1, close).trim();
        String[] texts = between.isEmpty() ? new String[0] : between.split(",");
        Object[] arguments = new Object[texts.length];
        for (int i = 0; i < texts.length; i++) {
            arguments[i] = argument(m.getParameterTypes()[i], texts[i].trim());
        }
        calls++;
        if (calls > CALLS) {
            throw new IllegalStateException(told + ": too many calls");
        }
        try {
            return ((Number) m.invoke(x, arguments)).longValue();
        } catch (InvocationTargetException thrown) {
            Due.is(told + ": " + step + " threw " + thrown.getCause(), 1, 0);
            return Long.MIN_VALUE;
        } catch (IllegalAccessException never) {
            throw new IllegalStateException(never);
        }
    }

    private static Object argument(Class<?> type, String text) {
        if (type == boolean.class) {
            return Boolean.valueOf(text);
        }
        if (type == long.class) {
            return Long.valueOf(text);
        }
        return Integer.valueOf(text);
    }

    // ---- a refused call changes nothing but how many there were

    private static void refusedAlone(String told, List<String> steps, int at) {
        String step = steps.get(at);
        String behind = told + ": behind " + step;
        Script with = new Script(behind);
        Script twin = new Script(behind);
        for (int i = 0; i < at; i++) {
            with.call(steps.get(i));
            twin.call(steps.get(i));
        }
        long[] counts = with.counts();
        with.call(step);
        long[] then = with.counts();
        for (int i = 0; i < counts.length; i++) {
            Due.is(behind + ", status(" + (12 + i) + ")", then[i], counts[i] + (i == number(step) ? 1 : 0));
        }
        if (answer(step).startsWith("FAULT")) {
            twin.call("wipe()");
        }
        List<String> seen = with.look();
        List<String> due = twin.look();
        Due.is(behind + ", how much is seen", seen.size(), due.size());
        for (int i = 0; i < Math.min(seen.size(), due.size()); i++) {
            Due.is(behind + ": " + seen.get(i) + ", not " + due.get(i), seen.get(i).equals(due.get(i)) ? 1 : 0, 1);
        }
    }

    private long[] counts() {
        long[] counts = new long[NUMBERS.size()];
        for (int i = 0; i < counts.length; i++) {
            counts[i] = call("status(" + (12 + i) + ")");
        }
        return counts;
    }

    /** All that the object tells; some of it can be asked just once, for what is told by that is gone then. */
    private List<String> look() {
        List<String> seen = new ArrayList<>();
        lookAtShelves(seen);
        lookAtTown(seen);
        see(seen, "street()");
        see(seen, "status(0)");
        see(seen, "back()");
        lookAtTown(seen);
        return seen;
    }

    private long see(List<String> seen, String step) {
        long answer = call(step);
        seen.add(step + " is " + answer);
        return answer;
    }

    private void lookAtShelves(List<String> seen) {
        for (int s = 0; s < 8; s++) {
            long holds = see(seen, "holds(" + s + ")");
            if (holds >= 10) {
                see(seen, "says(" + s + ", " + (holds - 10) + ")");
            } else if (holds >= 0) {
                for (int i : new int[] {0, 1, 2, 3, 39}) {
                    see(seen, "element(" + s + ", " + i + ")");
                }
            }
        }
    }

    private void lookAtTown(List<String> seen) {
        for (int what = 1; what < 4; what++) {
            see(seen, "status(" + what + ")");
        }
        long streets = see(seen, "status(0)");
        for (int i = 0; i < streets; i++) {
            lookAtStreet(seen, i);
        }
        see(seen, "status(2)");
        for (int what = 0; what < 4; what++) {
            see(seen, "search(" + what + ")");
        }
        see(seen, "step(999)");
        see(seen, "search(2)");
        see(seen, "search(3)");
        for (int d = 0; d < 6; d++) {
            see(seen, "know(" + d + ", " + d + ")");
        }
    }

    private void lookAtStreet(List<String> seen, int street) {
        long persons = see(seen, "streetOf(" + street + ", 0)");
        for (int what = 1; what < 5; what++) {
            see(seen, "streetOf(" + street + ", " + what + ")");
        }
        for (int p = 0; p < persons; p++) {
            for (int what : new int[] {0, 1, 2, 4, 5}) {
                see(seen, "personOf(" + street + ", " + p + ", " + what + ")");
            }
        }
        see(seen, "light(" + street + ", 1)");
        see(seen, "light(" + street + ", 2)");
        see(seen, "doers(" + street + ", 3)");
    }
}
