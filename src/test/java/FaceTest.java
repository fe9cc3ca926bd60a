import java.lang.reflect.Constructor;
import java.lang.reflect.Field;
import java.lang.reflect.Method;
import java.lang.reflect.Modifier;
import java.util.Arrays;
import java.util.TreeSet;

/** The public face: just the document's members, and nothing else that can be seen from outside. */
public final class FaceTest {
    private static final String[] METHODS = {
        "int horse(int, int, int)", "int leave(int)", "int sit(int, int)", "int rise(int)", "int shake()",
        "int rising()", "int may()", "int law(int, int)", "int best(int)", "int group(int, int, int, int)",
        "int rider(int)", "int coat(int, int)", "int sample(int, int)", "int strip(int, int)",
        "int swap(int, int, int, int)", "int mark(int, int)", "int swaps()", "int find(int, int)",
        "int fair(int, int, int)", "int road(int, int, int)", "int earns()", "int round(int)", "int turn()",
        "int look()", "int hours(int)", "int come(int)", "int next()", "int book(int)", "int count(int)",
        "long digest()",
    };
    private static final Check c = new Check("FaceTest");

    public static void main(String[] args) {
        methods();
        fields();
        constants();
        classes();
        c.finish();
    }

    private static String signatureOf(Method method) {
        String parameters = Arrays.toString(method.getParameterTypes()).replace('[', '(').replace(']', ')');
        return method.getReturnType() + " " + method.getName() + parameters;
    }

    private static void methods() {
        TreeSet<String> seen = new TreeSet<>();
        for (Method method : GallopingRing.class.getDeclaredMethods()) {
            if (Modifier.isPublic(method.getModifiers()) && !Modifier.isStatic(method.getModifiers())) {
                seen.add(signatureOf(method));
            } else {
                c.holds(method + " is private", Modifier.isPrivate(method.getModifiers()));
            }
        }
        c.same("the public methods", seen.toString(), new TreeSet<>(Arrays.asList(METHODS)).toString());
        Constructor<?>[] constructors = GallopingRing.class.getDeclaredConstructors();
        c.due("how many constructors", constructors.length, 1);
        c.due("parameters of the constructor", constructors[0].getParameterCount(), 0);
        c.holds("the constructor is public", Modifier.isPublic(constructors[0].getModifiers()));
    }

    private static void fields() {
        TreeSet<String> seen = new TreeSet<>();
        for (Field field : GallopingRing.class.getDeclaredFields()) {
            int modifiers = field.getModifiers();
            if (Modifier.isPublic(modifiers)) {
                c.holds(field + " is static and final", Modifier.isStatic(modifiers) && Modifier.isFinal(modifiers));
                seen.add(field.getType() + " " + field.getName());
            } else {
                c.holds(field + " is private", Modifier.isPrivate(modifiers));
            }
            c.holds(field + ", if static, is final", !Modifier.isStatic(modifiers) || Modifier.isFinal(modifiers));
        }
        c.same("the constants", seen.toString(), "[int FULL, int NONE, int OUTSIDE, int STATE, int UNKNOWN]");
    }

    private static void constants() {
        c.due("NONE", GallopingRing.NONE, -1);
        c.due("UNKNOWN", GallopingRing.UNKNOWN, -101);
        c.due("OUTSIDE", GallopingRing.OUTSIDE, -102);
        c.due("STATE", GallopingRing.STATE, -103);
        c.due("FULL", GallopingRing.FULL, -104);
    }

    private static void classes() {
        int modifiers = GallopingRing.class.getModifiers();
        c.holds("the class is public and final", Modifier.isPublic(modifiers) && Modifier.isFinal(modifiers));
        TreeSet<String> publicNames = new TreeSet<>();
        for (Method method : GallopingRing.class.getMethods()) {
            publicNames.add(method.getName());
        }
        for (Class<?> inside : GallopingRing.class.getDeclaredClasses()) {
            c.holds(inside + " is private", Modifier.isPrivate(inside.getModifiers()));
            c.holds(inside + " is static", Modifier.isStatic(inside.getModifiers()));
            for (Method method : inside.getDeclaredMethods()) {
                c.holds(method + " has a name of its own", !publicNames.contains(method.getName()));
            }
        }
    }
}
