import java.lang.reflect.Constructor;
import java.lang.reflect.Field;
import java.lang.reflect.Method;
import java.lang.reflect.Modifier;
import java.util.Arrays;
import java.util.Set;
import java.util.TreeSet;

/** The class shows just what the document's face has. */
public final class FaceTest {
    private static final String[] METHODS = {
        "feed(int,long)", "quay()", "night()", "month()", "fault()", "told(int)", "lamp(int,int)", "singer(int,int)",
        "weather(int,int)", "wakes(int,int,int)", "hum(int,int)", "run(int)", "lit(int)", "dark()", "sweep(int)",
        "round(int)", "signal(int)", "forget()", "shows()", "lured(int,int,long,int)", "apart(long,int,int,int)",
        "fewest(int,int,int,int)", "who(int)", "where(int,int)", "file(int,int)", "alone(int)",
        "tuned(int,int,int,int)", "flat(int)", "log(int)", "clear()", "judge()", "seed(int)", "keep(int)",
        "goBack(int)"};
    private static final String[] CONSTANTS = {"NONE", "WIND", "HUMMER", "UNKNOWN", "OUTSIDE", "NOT", "FULL"};

    public static void main(String[] args) {
        Check check = new Check("FaceTest");
        Class<LampsListen> face = LampsListen.class;
        check.holds("public and final", face.getModifiers() == (Modifier.PUBLIC | Modifier.FINAL));
        check.holds("methods", methods(face).equals(new TreeSet<>(Arrays.asList(METHODS))));
        check.holds("constants", constants(face).equals(new TreeSet<>(Arrays.asList(CONSTANTS))));
        Constructor<?>[] made = face.getDeclaredConstructors();
        check.holds("one constructor", made.length == 1 && Modifier.isPublic(made[0].getModifiers())
            && made[0].getParameterCount() == 0);
        check.holds("no private method has a public one's name", noSharedNames(face));
        for (Class<?> inner : face.getDeclaredClasses()) {
            check.holds(inner + " is static", Modifier.isStatic(inner.getModifiers()));
        }
        check.end();
    }

    private static Set<String> methods(Class<?> face) {
        Set<String> found = new TreeSet<>();
        for (Method m : face.getDeclaredMethods()) {
            if (!Modifier.isPrivate(m.getModifiers())) {
                boolean isAsTold = m.getModifiers() == Modifier.PUBLIC && m.getReturnType() == int.class;
                found.add((isAsTold ? "" : "not as told: ") + signature(m));
            }
        }
        return found;
    }

    private static String signature(Method m) {
        StringBuilder s = new StringBuilder(m.getName()).append('(');
        for (Class<?> p : m.getParameterTypes()) {
            s.append(s.charAt(s.length() - 1) == '(' ? "" : ",").append(p.getName());
        }
        return s.append(')').toString();
    }

    private static Set<String> constants(Class<?> face) {
        int modifiers = Modifier.PUBLIC | Modifier.STATIC | Modifier.FINAL;
        Set<String> found = new TreeSet<>();
        for (Field f : face.getDeclaredFields()) {
            if (!Modifier.isPrivate(f.getModifiers())) {
                boolean isAsTold = f.getModifiers() == modifiers && f.getType() == int.class;
                found.add((isAsTold ? "" : "not as told: ") + f.getName());
            }
        }
        return found;
    }

    private static boolean noSharedNames(Class<?> face) {
        Set<String> names = new TreeSet<>();
        for (String m : METHODS) {
            names.add(m.substring(0, m.indexOf('(')));
        }
        for (Method m : face.getDeclaredMethods()) {
            if (Modifier.isPrivate(m.getModifiers()) && names.contains(m.getName())) {
                return false;
            }
        }
        for (Class<?> inner : face.getDeclaredClasses()) {
            for (Method m : inner.getDeclaredMethods()) {
                if (names.contains(m.getName())) {
                    return false;
                }
            }
        }
        return true;
    }
}
