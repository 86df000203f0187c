import java.lang.reflect.Constructor;
import java.lang.reflect.Field;
import java.lang.reflect.Method;
import java.lang.reflect.Modifier;
import java.util.Arrays;
import java.util.Set;
import java.util.TreeSet;

/** "The public face": the document's constants, constructor and methods, and no other member that can be seen. */
public final class FaceTest {
    private static final Set<String> METHODS = Set.of(
        "clear()", "constant()", "apply(int,int)", "equate(int,int)", "back(int)", "differ(int,int)", "clash()",
        "same(int,int)", "least(int)", "size(int)", "since(int,int)", "round(int,int)", "why(int,int,int)",
        "gives(long,int,int)", "told(int,int)", "count(int)");
    private static final Set<String> CONSTANTS = Set.of("NONE", "BAD", "FULL");
    private static final Class<?> FACE = SameTerms.class;
    private static final Check CHECK = new Check();

    private FaceTest() {
    }

    public static void main(String[] args) {
        theClass();
        theConstants();
        theConstructor();
        theMethods();
        classesInside();
        CHECK.end();
    }

    private static void holds(String sentence, boolean does) {
        CHECK.due("The public face: " + sentence, does ? 1 : 0, 1);
    }

    private static void theClass() {
        holds("the class is public and final", FACE.getModifiers() == (Modifier.PUBLIC | Modifier.FINAL));
        holds("it has no package", FACE.getPackageName().isEmpty());
        holds("it extends nothing", FACE.getSuperclass() == Object.class && FACE.getInterfaces().length == 0);
    }

    private static void theConstants() {
        Set<String> seen = new TreeSet<>();
        for (Field f : FACE.getDeclaredFields()) {
            if (!Modifier.isPrivate(f.getModifiers())) {
                seen.add(f.getName());
                holds(f.getName() + " is an int", f.getType() == int.class);
                holds(f.getName() + " is public", Modifier.isPublic(f.getModifiers()));
                holds(f.getName() + " is static", Modifier.isStatic(f.getModifiers()));
            }
        }
        holds("no field is seen but NONE, BAD and FULL: " + seen, seen.equals(CONSTANTS));
        staticFieldsAreFinal(FACE);
        CHECK.due("NONE", SameTerms.NONE, -1);
        CHECK.due("BAD", SameTerms.BAD, -2);
        CHECK.due("FULL", SameTerms.FULL, -3);
    }

    private static void staticFieldsAreFinal(Class<?> c) {
        for (Field f : c.getDeclaredFields()) {
            int how = f.getModifiers();
            holds(c.getName() + "." + f.getName() + " is no static state", !Modifier.isStatic(how) || Modifier.isFinal(how));
        }
    }

    private static void theConstructor() {
        Constructor<?>[] all = FACE.getDeclaredConstructors();
        CHECK.due("The public face: constructors", all.length, 1);
        holds("SameTerms() takes nothing", all[0].getParameterCount() == 0);
        holds("SameTerms() is public", Modifier.isPublic(all[0].getModifiers()));
        holds("SameTerms() declares no exception", all[0].getExceptionTypes().length == 0);
    }

    private static void theMethods() {
        Set<String> seen = new TreeSet<>();
        Set<String> publicNames = new TreeSet<>();
        for (Method m : FACE.getDeclaredMethods()) {
            if (!Modifier.isPrivate(m.getModifiers())) {
                seen.add(signature(m));
                publicNames.add(m.getName());
                holds(signature(m) + " is public and of an object", m.getModifiers() == Modifier.PUBLIC);
                holds(signature(m) + " answers an int", m.getReturnType() == int.class);
                holds(signature(m) + " declares no exception", m.getExceptionTypes().length == 0);
            }
        }
        holds("no method is seen but the document's: " + seen, seen.equals(METHODS));
        for (Method m : FACE.getDeclaredMethods()) {
            boolean hidden = Modifier.isPrivate(m.getModifiers());
            holds(signature(m) + " has a name of its own", !hidden || !publicNames.contains(m.getName()));
        }
    }

    private static void classesInside() {
        for (Class<?> c : FACE.getDeclaredClasses()) {
            int how = c.getModifiers();
            holds(c.getName() + " is not public", !Modifier.isPublic(how) && !Modifier.isProtected(how));
            holds(c.getName() + " is static", Modifier.isStatic(how));
            staticFieldsAreFinal(c);
        }
    }

    private static String signature(Method m) {
        String types = Arrays.toString(Arrays.stream(m.getParameterTypes()).map(Class::getName).toArray());
        return m.getName() + types.replace(", ", ",").replace('[', '(').replace(']', ')');
    }
}
