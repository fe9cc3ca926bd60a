import java.lang.reflect.Constructor;
import java.lang.reflect.Field;
import java.lang.reflect.Method;
import java.lang.reflect.Modifier;
import java.util.Arrays;
import java.util.Set;
import java.util.TreeSet;

/** The public face: just the document's members, and nothing else that can be seen from outside; what classes hold. */
public final class FaceTest {
    private static final String[] METHODS = {
        "int horse(int, int, int)", "int leave(int)", "int sit(int, int)", "int rise(int)", "int shake()",
        "int rising()", "int may()", "int law(int, int)", "int best(int)", "int group(int, int, int, int)",
        "int rider(int)", "int coat(int, int)", "int sample(int, int)", "int strip(int, int)",
        "int swap(int, int, int, int)", "int mark(int, int)", "int swaps()", "int find(int, int)",
        "int fair(int, int, int)", "int road(int, int, int)", "int earns()", "int round(int)", "int turn()",
        "int look()", "int hours(int)", "int come(int)", "int next()", "int book(int)", "int count(int)",
        "long digest()",
    };
    private static final Set<Class<?>> STATIC_TYPES = Set.of(int.class, long.class, boolean.class, char.class, String.class,
        int[].class, long[].class, char[].class, byte[].class);
    // "Some twenty fields": a few more are no fault.
    private static final int MOST_FIELDS = 24;
    private static final Check c = new Check("FaceTest");

    public static void main(String[] args) {
        methods();
        fields();
        constants();
        classes();
        c.finish();
    }

    private static String signatureOf(Method method) {
        String parameters = Arrays.toString(method.getParameterTypes()).replace('[', '(').replace(']', ')');
        return method.getReturnType() + " " + method.getName() + parameters;
    }

    private static void methods() {
        TreeSet<String> seen = new TreeSet<>();
        for (Method method : GallopingRing.class.getDeclaredMethods()) {
            if (Modifier.isPublic(method.getModifiers()) && !Modifier.isStatic(method.getModifiers())) {
                seen.add(signatureOf(method));
            } else if (!method.isSynthetic()) {
                c.holds(method + " is private", Modifier.isPrivate(method.getModifiers()));
            }
        }
        c.same("the public methods", seen.toString(), new TreeSet<>(Arrays.asList(METHODS)).toString());
        int constructors = 0;
        for (Constructor<?> constructor : GallopingRing.class.getDeclaredConstructors()) {
            if (!Modifier.isPrivate(constructor.getModifiers()) && !constructor.isSynthetic()) {
                constructors++;
                c.due("parameters of the constructor", constructor.getParameterCount(), 0);
                c.holds("the constructor is public", Modifier.isPublic(constructor.getModifiers()));
            }
        }
        c.due("how many constructors", constructors, 1);
    }

    private static void fields() {
        TreeSet<String> seen = new TreeSet<>();
        for (Field field : GallopingRing.class.getDeclaredFields()) {
            int modifiers = field.getModifiers();
            if (Modifier.isPublic(modifiers)) {
                c.holds(field + " is static and final", Modifier.isStatic(modifiers) && Modifier.isFinal(modifiers));
                seen.add(field.getType() + " " + field.getName());
            } else {
                c.holds(field + " is private", Modifier.isPrivate(modifiers));
            }
        }
        c.same("the constants", seen.toString(), "[int FULL, int NONE, int OUTSIDE, int STATE, int UNKNOWN]");
    }

    private static void constants() {
        c.due("NONE", GallopingRing.NONE, -1);
        c.due("UNKNOWN", GallopingRing.UNKNOWN, -101);
        c.due("OUTSIDE", GallopingRing.OUTSIDE, -102);
        c.due("STATE", GallopingRing.STATE, -103);
        c.due("FULL", GallopingRing.FULL, -104);
    }

    private static void classes() {
        int modifiers = GallopingRing.class.getModifiers();
        c.holds("the class is public and final", Modifier.isPublic(modifiers) && Modifier.isFinal(modifiers));
        for (Class<?> inside : GallopingRing.class.getDeclaredClasses()) {
            int seen = inside.getModifiers();
            c.holds(inside + " is seen inside alone", !Modifier.isPublic(seen) && !Modifier.isProtected(seen));
            c.holds(inside + " is static", Modifier.isStatic(seen));
            privateNames(inside);
            heldFields(inside);
        }
        privateNames(GallopingRing.class);
        heldFields(GallopingRing.class);
    }

    private static void privateNames(Class<?> type) {
        for (Method method : type.getDeclaredMethods()) {
            if (Modifier.isPrivate(method.getModifiers()) && !method.isSynthetic()) {
                boolean ofTheFace = false;
                for (String signature : METHODS) {
                    ofTheFace |= signature.contains(" " + method.getName() + "(");
                }
                c.holds(method + " has a name of its own", !ofTheFace);
            }
        }
    }

    /** LANGUAGE.md, rules 3, 5 and 11. */
    private static void heldFields(Class<?> type) {
        int ofObjects = 0;
        for (Field field : type.getDeclaredFields()) {
            if (Modifier.isStatic(field.getModifiers())) {
                c.holds(field + " is final", Modifier.isFinal(field.getModifiers()));
                c.holds(field + " is of a constant's type", type.isEnum() || STATIC_TYPES.contains(field.getType()));
            } else {
                ofObjects++;
                c.holds(field + " is of a type that may be held", mayBeHeld(field.getType()));
            }
        }
        c.holds(type + " has few fields: " + ofObjects, ofObjects <= MOST_FIELDS);
    }

    private static boolean mayBeHeld(Class<?> type) {
        if (type.isArray()) {
            Class<?> element = type.getComponentType();
            boolean rowsOfNumbers = element.isArray() && element.getComponentType().isPrimitive();
            return rowsOfNumbers || !element.isArray() && mayBeHeld(element);
        }
        boolean ofLibrary = Set.of("String", "StringBuilder", "Integer", "ArrayList", "List", "Object").contains(type.getSimpleName());
        return type.isPrimitive() || ofLibrary || type.getName().startsWith("GallopingRing$");
    }
}
