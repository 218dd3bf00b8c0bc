import java.lang.reflect.Constructor;
import java.lang.reflect.Field;
import java.lang.reflect.Member;
import java.lang.reflect.Method;
import java.lang.reflect.Modifier;
import java.util.List;
import java.util.Set;
import java.util.TreeSet;

/** The public face, its constants, and promise 1: what a new object answers. */
public final class FaceTest {
    private static final Set<String> FACE = new TreeSet<>(List.of(
        "int feed(int,int)", "int hut()", "int line(int,int)", "int goesTo(int,int,int)", "int way(int)",
        "int kindOf(int)", "int run(int)", "int step(int,int,int)", "int steps(int,int,int,int)",
        "int ofRun(int,int)", "int ofHut(int,int,int)", "int word(int,int,int)", "int note(int,int,int)",
        "int total(int)", "int states(int)", "int least(int,int,int)", "int stuck(int)", "int work(int,int)",
        "int act(int,int,int)", "int trace(int)", "int keep(int,int)", "int row(int,int,int)",
        "int put(int,int,long)", "long element(int,int)", "int shift(int,int,int,int,int)", "int taken(int,int)",
        "int count(int)"));

    private static String told(Method m) {
        StringBuilder text = new StringBuilder(m.getReturnType().getName()).append(' ').append(m.getName()).append('(');
        for (Class<?> type : m.getParameterTypes()) {
            text.append(text.charAt(text.length() - 1) == '(' ? "" : ",").append(type.getName());
        }
        return text.append(')').toString();
    }

    private static boolean isSeen(Member m) {
        return !Modifier.isPrivate(m.getModifiers());
    }

    private static void face() {
        Set<String> seen = new TreeSet<>();
        Set<String> names = new TreeSet<>();
        for (Method m : AllHome.class.getDeclaredMethods()) {
            if (isSeen(m)) {
                seen.add(told(m));
                names.add(m.getName());
                Due.isTrue(m + " is public and no more", m.getModifiers() == Modifier.PUBLIC);
            }
        }
        Due.isTrue("methods are " + FACE + ", not " + seen, seen.equals(FACE));
        for (Method m : AllHome.class.getDeclaredMethods()) {
            Due.isTrue(m + " bears no public name", isSeen(m) || !names.contains(m.getName()));
        }
        Due.is("constructors", AllHome.class.getDeclaredConstructors().length, 1);
        for (Constructor<?> c : AllHome.class.getDeclaredConstructors()) {
            Due.isTrue("public AllHome()", Modifier.isPublic(c.getModifiers()) && c.getParameterCount() == 0);
        }
        Set<String> constants = new TreeSet<>();
        for (Field f : AllHome.class.getDeclaredFields()) {
            if (isSeen(f)) {
                constants.add(f.getName());
                Due.is(f.getName() + " is public static final", f.getModifiers(),
                    Modifier.PUBLIC | Modifier.STATIC | Modifier.FINAL);
            }
        }
        Due.isTrue("constants, not " + constants,
            constants.equals(new TreeSet<>(List.of("BAD", "NOT", "FULL", "BIG", "STATE", "VOID"))));
        Due.isTrue("public final", AllHome.class.getModifiers() == (Modifier.PUBLIC | Modifier.FINAL));
        Due.isTrue("no package", AllHome.class.getPackageName().isEmpty());
        for (Class<?> inside : AllHome.class.getDeclaredClasses()) {
            int modifiers = inside.getModifiers();
            Due.isTrue(inside + " is static and not public", Modifier.isStatic(modifiers)
                && !Modifier.isPublic(modifiers) && !Modifier.isProtected(modifiers));
            for (Method m : inside.getDeclaredMethods()) {
                Due.isTrue(m + " bears no public name", !names.contains(m.getName()));
            }
        }
    }

    private static void constants() {
        Due.is("BAD", AllHome.BAD, -1);
        Due.is("NOT", AllHome.NOT, -2);
        Due.is("FULL", AllHome.FULL, -3);
        Due.is("BIG", AllHome.BIG, -4);
        Due.is("STATE", AllHome.STATE, -5);
        Due.is("VOID", AllHome.VOID, -2000000000);
    }

    private static void newObject() {
        AllHome x = new AllHome();
        for (int what = 0; what <= 4; what++) {
            Due.is("count " + what, x.count(what), 0);
        }
        Due.is("line", x.line(0, -1), -1);
        Due.is("kindOf", x.kindOf(0), -1);
        Due.is("run", x.run(0), -1);
        Due.is("ofRun", x.ofRun(0, 0), -1);
        Due.is("trace", x.trace(0), -1);
        for (int shelf = 0; shelf < 6; shelf++) {
            Due.is("taken", x.taken(shelf, 0), -11);
        }
        AllHome used = Due.withHuts("b", "a");
        used.way(1);
        used.run(0);
        used.act(0, 0, 1);
        Due.is("a second object has its own huts", new AllHome().count(0), 0);
        Due.is("the first keeps its own", used.count(0), 2);
    }

    /** Every method with every mix of odd numbers: none throws, whatever stands in the object. */
    private static void oddNumbers() throws ReflectiveOperationException {
        int[] odd = {Integer.MIN_VALUE, -101, -2, -1, 0, 1, 2, 5, 6, 8, 9, 10, 59, 60, 61, 100, Integer.MAX_VALUE};
        for (Method m : AllHome.class.getMethods()) {
            if (m.getDeclaringClass() != AllHome.class) {
                continue;
            }
            int n = m.getParameterCount();
            AllHome[] objects = {new AllHome(), filled(1), filled(2), filled(4), filled(8)};
            // Of the methods with five numbers every 41st mix is enough.
            int stride = n == 5 ? 41 : 1;
            for (int k = 0; k < 2000000; k += stride) {
                Object[] args = new Object[n];
                int from = k;
                for (int a = 0; a < n; a++) {
                    int v = odd[from % odd.length];
                    from /= odd.length;
                    args[a] = m.getParameterTypes()[a] == long.class ? (Object) Long.valueOf(v) : Integer.valueOf(v);
                }
                if (from > 0) {
                    break;
                }
                for (AllHome x : objects) {
                    m.invoke(x, args);
                }
            }
        }
        Due.isTrue("no call threw", true);
    }

    private static AllHome filled(int kind) {
        AllHome x = Due.withHuts("b2c;b", "a;c", "b");
        x.way(kind);
        x.way(7);
        x.run(0);
        x.run(1);
        for (int k = 0; k < 3; k++) {
            x.step(0, 0, 0);
            x.step(1, 0, 0);
        }
        x.act(0, 3, 5);
        x.keep(0, 1);
        for (int sort = 0; sort < 5; sort++) {
            x.row(1 + sort, sort, 60 - sort);
        }
        Due.feed(x, "a2");
        return x;
    }

    public static void main(String[] args) throws ReflectiveOperationException {
        face();
        constants();
        newObject();
        oddNumbers();
        Due.end("FaceTest");
    }
}
