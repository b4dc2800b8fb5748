import java.lang.reflect.Constructor;
import java.lang.reflect.Field;
import java.lang.reflect.Method;
import java.lang.reflect.Modifier;
import java.util.Arrays;
import java.util.Set;
import java.util.TreeSet;

/** The public face is the document's, and nothing else of the class can be seen from outside. */
final class FaceTest {
    private static final String[] FACE = {
        "int append(int) IllegalArgumentException IllegalStateException",
        "int clearText()",
        "int errorPosition()",
        "int load() IllegalStateException",
        "int about(int) IllegalArgumentException",
        "int module(int,int) IndexOutOfBoundsException IllegalArgumentException",
        "int wire(int,int) IndexOutOfBoundsException IllegalArgumentException",
        "int between(int,int) IndexOutOfBoundsException",
        "int addModule(int,int) IllegalArgumentException IllegalStateException",
        "int lay(int,int,int,int,int) IndexOutOfBoundsException IllegalArgumentException IllegalStateException",
        "int cut(int) IndexOutOfBoundsException",
        "int put(int,int) IndexOutOfBoundsException IllegalArgumentException IllegalStateException",
        "int work(int) IndexOutOfBoundsException IllegalStateException",
        "int round(int) IllegalArgumentException IllegalStateException",
        "int undo() IllegalStateException",
        "int order(int,int) IllegalArgumentException",
        "int sticks(int) IllegalArgumentException",
        "int holds(int,int) IndexOutOfBoundsException IllegalArgumentException",
        "int bestRule()",
        "int fewest(int) IndexOutOfBoundsException",
        "int agrees(int,int) IndexOutOfBoundsException IllegalArgumentException",
        "int runScript(int,long) IllegalArgumentException",
        "int simulate(long,int) IllegalArgumentException",
        "int save(int) IndexOutOfBoundsException",
        "int restore(int) IndexOutOfBoundsException IllegalStateException",
    };

    private FaceTest() {
    }

    public static void main(String[] args) {
        int kind = RateWires.class.getModifiers();
        Checks.isTrue("public and final", Modifier.isPublic(kind) && Modifier.isFinal(kind));
        Checks.isTrue("no class above it", RateWires.class.getSuperclass() == Object.class);
        Checks.isTrue("no interfaces", RateWires.class.getInterfaces().length == 0);
        Checks.same("NONE", -1, RateWires.NONE);
        methods();
        fields();
        constructors();
        Checks.end("FaceTest");
    }

    private static void methods() {
        Set<String> due = new TreeSet<>(Arrays.asList(FACE));
        Set<String> names = new TreeSet<>();
        for (Method m : RateWires.class.getDeclaredMethods()) {
            if (Modifier.isPublic(m.getModifiers())) {
                names.add(m.getName());
                Checks.isTrue("in the document: " + told(m), due.remove(told(m)));
                Checks.isTrue("of the object: " + told(m), !Modifier.isStatic(m.getModifiers()));
            }
        }
        Checks.isTrue("missing: " + due, due.isEmpty());
        for (Method m : RateWires.class.getDeclaredMethods()) {
            if (!Modifier.isPublic(m.getModifiers()) && !m.isSynthetic()) {
                Checks.isTrue("private: " + m, Modifier.isPrivate(m.getModifiers()));
                Checks.isTrue("a name of its own: " + m, !names.contains(m.getName()));
            }
        }
        for (Class<?> inside : RateWires.class.getDeclaredClasses()) {
            Checks.isTrue("static: " + inside, Modifier.isStatic(inside.getModifiers()));
            Checks.isTrue("not public: " + inside, !Modifier.isPublic(inside.getModifiers()));
            for (Method m : inside.getDeclaredMethods()) {
                Checks.isTrue("a name of its own: " + m, !names.contains(m.getName()));
            }
        }
    }

    private static String told(Method m) {
        StringBuilder s = new StringBuilder(m.getReturnType().getSimpleName()).append(' ').append(m.getName()).append('(');
        for (int i = 0; i < m.getParameterCount(); i++) {
            s.append(i == 0 ? "" : ",").append(m.getParameterTypes()[i].getSimpleName());
        }
        s.append(')');
        for (Class<?> e : m.getExceptionTypes()) {
            s.append(' ').append(e.getSimpleName());
        }
        return s.toString();
    }

    private static void fields() {
        for (Field f : RateWires.class.getDeclaredFields()) {
            boolean none = f.getName().equals("NONE");
            Checks.isTrue("seen as due: " + f, none ? Modifier.isPublic(f.getModifiers()) : Modifier.isPrivate(f.getModifiers()));
            Checks.isTrue("final: " + f, Modifier.isFinal(f.getModifiers()) || !Modifier.isStatic(f.getModifiers()));
        }
    }

    private static void constructors() {
        Constructor<?>[] all = RateWires.class.getDeclaredConstructors();
        Checks.same("constructors", 1, all.length);
        Checks.isTrue("public and without arguments", Modifier.isPublic(all[0].getModifiers()) && all[0].getParameterCount() == 0);
    }
}
