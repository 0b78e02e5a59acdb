import java.lang.management.ManagementFactory;
import java.lang.reflect.Constructor;
import java.lang.reflect.Field;
import java.lang.reflect.Method;
import java.lang.reflect.Modifier;
import java.util.Arrays;
import java.util.Set;
import java.util.TreeSet;

/** What of LANGUAGE.md can be looked at from outside: the face, names, the room. */
public final class RulesTest {
    private static final String FACE = """
        int cell(int int int int), int drop(), int set(int int int), int heat(int int), int of(int int),
        int taken(int int), int kin(int), int end(int int), int rule(int int), long t(int int), long line(),
        int joint(int), long flow(int int), int stable(int), int need(), long sum(int), int most(int),
        int step(int), long then(int int int), int spent(int), int rises(int), int calm(int),
        int pulse(int int int), int pulseOf(int int), int hush(int), long steady(int int),
        long steadyFlow(int int), int hottest(), int lay(), int isSteady(), int buried(int int),
        int tells(int int int), int film(int int int), long drawn(int int), int feed(int int int int int int),
        int text(), int image(), int back(), int load(int int int int), int count(int), int sheet(int int int),
        int put(int int int), int copy(int int int int int)""";

    private static int wrong = 0;

    private static void hold(String what, boolean holds) {
        if (!holds) {
            wrong++;
            System.out.println("not so: " + what);
        }
    }

    public static void main(String[] args) {
        face();
        names();
        room();
        System.out.println("RulesTest: " + (wrong == 0 ? "all hold" : wrong + " do not hold"));
        if (wrong != 0) {
            System.exit(1);
        }
    }

    private static void face() {
        Set<String> want = new TreeSet<>(Arrays.asList(FACE.split(",\\s+")));
        Set<String> got = new TreeSet<>();
        for (Method m : BarSteps.class.getDeclaredMethods()) {
            if (!Modifier.isPrivate(m.getModifiers())) {
                StringBuilder s = new StringBuilder(m.getReturnType() + " " + m.getName() + "(");
                for (Class<?> p : m.getParameterTypes()) {
                    s.append(s.charAt(s.length() - 1) == '(' ? "" : " ").append(p);
                }
                got.add(s.append(")").toString());
                hold(m + " is public, no static one", m.getModifiers() == Modifier.PUBLIC);
            }
        }
        hold("the methods are those of the face, not " + got, got.equals(want));
        Set<String> constants = new TreeSet<>();
        for (Field f : BarSteps.class.getDeclaredFields()) {
            if (!Modifier.isPrivate(f.getModifiers())) {
                constants.add(f.getType() + " " + f.getName());
            }
            hold(f + " is final, if it is static",
                !Modifier.isStatic(f.getModifiers()) || Modifier.isFinal(f.getModifiers()));
        }
        hold("the constants are those of the face, not " + constants, constants.equals(
            Set.of("int NONE", "int BAD", "int STATE", "int FULL", "long NO")));
        Constructor<?>[] all = BarSteps.class.getDeclaredConstructors();
        hold("one public constructor", all.length == 1 && Modifier.isPublic(all[0].getModifiers())
            && all[0].getParameterCount() == 0);
        hold("public and final", BarSteps.class.getModifiers() == (Modifier.PUBLIC | Modifier.FINAL));
    }

    private static void names() {
        Set<String> faces = new TreeSet<>();
        for (Method m : BarSteps.class.getDeclaredMethods()) {
            if (Modifier.isPublic(m.getModifiers())) {
                faces.add(m.getName());
            }
        }
        for (Method m : BarSteps.class.getDeclaredMethods()) {
            hold("a name of the face is not borne by " + m,
                Modifier.isPublic(m.getModifiers()) || !faces.contains(m.getName()));
        }
        Class<?>[] inside = BarSteps.class.getDeclaredClasses();
        hold("twelve classes at most", inside.length < 12);
        for (Class<?> c : inside) {
            hold(c + " is static and not public", Modifier.isStatic(c.getModifiers())
                && !Modifier.isPublic(c.getModifiers()) && !Modifier.isProtected(c.getModifiers()));
            int fields = 0;
            for (Field f : c.getDeclaredFields()) {
                fields += Modifier.isStatic(f.getModifiers()) ? 0 : 1;
            }
            hold(c + " has twenty fields at most", fields <= 20);
            for (Method m : c.getDeclaredMethods()) {
                hold("a name of the face is not borne by " + m, !faces.contains(m.getName()));
                hold(m + " takes seven at most", m.getParameterCount() <= 7);
            }
        }
    }

    /** All calls of a run live in one room, so calls make nothing. */
    private static void room() {
        com.sun.management.ThreadMXBean bean =
            (com.sun.management.ThreadMXBean) ManagementFactory.getThreadMXBean();
        dearCalls();
        long id = Thread.currentThread().getId();
        long before = bean.getThreadAllocatedBytes(id);
        dearCalls();
        long taken = bean.getThreadAllocatedBytes(id) - before;
        hold("an object with 400 dear calls takes 16 KiB at most, not " + taken, taken <= 16384);
    }

    private static void dearCalls() {
        BarSteps x = new BarSteps();
        for (int i = 0; i < 8; i++) {
            x.cell(i % 6, i + 1, i % 4 + 1, 100 * i);
        }
        x.end(0, 5);
        for (int i = 0; i < 25; i++) {
            x.sheet(0, 1, 8);
            x.buried(0, 0);
            x.buried(0, 1);
            x.tells(0, 3, 1);
            x.film(1, 2, 3);
            x.image();
            x.step(2);
            x.back();
            x.spent(0);
            x.calm(0);
            x.rises(40);
            x.drawn(i, 3);
            x.steady(3, 0);
            x.feed(4, 'd', 'r', 'o', 'p', 0);
            x.text();
            x.cell(0, 1, 1, i);
        }
    }
}
