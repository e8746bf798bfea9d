import java.lang.reflect.Constructor;
import java.lang.reflect.Field;
import java.lang.reflect.Method;
import java.lang.reflect.Modifier;
import java.util.Set;
import java.util.TreeSet;

/** The public face, and those rules of LANGUAGE.md that can be seen in a compiled class. */
public final class FaceTest {
    private static final String FACE = "row(int,int,int) set(int,int,long) copy(int,int,int,int,int) long:element(int,int)"
        + " holds(int) way(int,int,int) says(int,int) feed(int,int) wipe() street() streetOf(int,int)"
        + " personOf(int,int,int) alter(int,int,int,int) tie(int,int,int,int) must(int,int,boolean)"
        + " take(int,int,int) come(int,int,int,int) gain(int,int,int) total(int,int) judge(int,int) count(int)"
        + " rest(int,int) fewest(int) most(int) cheap(int) best(int) good(int) lost(int) beside(int) go(int,int)"
        + " turns(int,int) ring(int,int) lot(int,int,int) nobody(int,int,int) know(int,int) bar(int,int)"
        + " cuts(int,int) adds(int,int,int) less(int) need(int,int,int) pay(int,int) few(int,int) rota(int,int,int)"
        + " doers(int,int) light(int,int) late(int,int) seed(int) begin(int) step(int) search(int) image() back()"
        + " status(int)";

    public static void main(String[] args) {
        Due.is("NONE", SomebodyWill.NONE, -1);
        Class<?> main = SomebodyWill.class;
        Due.is("public and final", main.getModifiers(), Modifier.PUBLIC | Modifier.FINAL);
        Set<String> due = new TreeSet<>();
        for (String one : FACE.split(" ")) {
            due.add(one.contains(":") ? one : "int:" + one);
        }
        Due.is("calls due", due.size(), 53);
        Set<String> names = new TreeSet<>();
        for (Method m : main.getDeclaredMethods()) {
            if (Modifier.isPrivate(m.getModifiers())) {
                continue;
            }
            Due.is(m + " is public and no more", m.getModifiers(), Modifier.PUBLIC);
            names.add(m.getName());
            Due.is(m + " is of the face", due.remove(text(m)) ? 1 : 0, 1);
        }
        Due.is("calls that are not there: " + due, due.size(), 0);
        constructors(main);
        int classes = 1;
        members(main, names);
        for (Class<?> c : main.getDeclaredClasses()) {
            classes++;
            members(c, names);
        }
        Due.is("at most twelve classes", classes <= 12 ? 1 : 0, 1);
        Due.end();
    }

    private static void constructors(Class<?> main) {
        Constructor<?>[] made = main.getDeclaredConstructors();
        Due.is("constructors", made.length, 1);
        Due.is("the constructor is public", made[0].getModifiers(), Modifier.PUBLIC);
        Due.is("the constructor's parameters", made[0].getParameterCount(), 0);
    }

    private static void members(Class<?> c, Set<String> names) {
        int own = 0;
        for (Field f : c.getDeclaredFields()) {
            boolean isNone = c == SomebodyWill.class && f.getName().equals("NONE");
            Due.is(f + " is private", isNone || Modifier.isPrivate(f.getModifiers()) ? 1 : 0, 1);
            if (Modifier.isStatic(f.getModifiers())) {
                Due.is(f + " is final", Modifier.isFinal(f.getModifiers()) ? 1 : 0, 1);
            } else {
                own++;
            }
        }
        Due.is(c + " has some twenty fields", own <= 20 ? 1 : 0, 1);
        for (Method m : c.getDeclaredMethods()) {
            Due.is(m + " has at most seven parameters", m.getParameterCount() <= 7 ? 1 : 0, 1);
            if (!Modifier.isPublic(m.getModifiers())) {
                Due.is(m + " bears no public one's name", names.contains(m.getName()) ? 0 : 1, 1);
            }
        }
    }

    private static String text(Method m) {
        StringBuilder b = new StringBuilder(m.getReturnType().getName() + ":" + m.getName() + "(");
        for (int i = 0; i < m.getParameterCount(); i++) {
            b.append(i > 0 ? "," : "").append(m.getParameterTypes()[i].getName());
        }
        return b.append(")").toString();
    }
}
