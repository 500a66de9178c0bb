import java.lang.reflect.Constructor;
import java.lang.reflect.Field;
import java.lang.reflect.Method;
import java.lang.reflect.Modifier;
import java.util.Arrays;
import java.util.HashSet;
import java.util.Set;
import java.util.TreeSet;

// The public face of the document, and the rules of LANGUAGE.md that can be seen in the compiled class.
public final class FaceTest {
    private static final Set<String> FACE = Set.of(
        "int pair(int, int)", "int lock(int, int)", "int hear(int)", "int unhear(int)", "int knows(int)",
        "int known()", "int would(int, int)", "int leak(int)", "int atomsFor(int)", "int spare()");
    private static final Set<Class<?>> NUMBERS = Set.of(
        int.class, long.class, short.class, byte.class, char.class, boolean.class);

    private static int wrong = 0;

    public static void main(String[] args) {
        checkClass();
        checkConstructors();
        checkMethods();
        checkFields();
        System.out.println(wrong == 0 ? "the face is as due" : wrong + " things are not as due");
        if (wrong != 0) {
            System.exit(1);
        }
    }

    private static void due(String what, boolean holds) {
        if (!holds) {
            wrong++;
            System.out.println("does not hold: " + what);
        }
    }

    private static void checkClass() {
        int modifiers = TermSecrets.class.getModifiers();
        due("the class is public and final", Modifier.isPublic(modifiers) && Modifier.isFinal(modifiers));
        due("no package", TermSecrets.class.getPackageName().isEmpty());
        due("no nested class", TermSecrets.class.getDeclaredClasses().length == 0);
        due("no superclass but Object", TermSecrets.class.getSuperclass() == Object.class);
        due("no interface", TermSecrets.class.getInterfaces().length == 0);
    }

    private static void checkConstructors() {
        Constructor<?>[] constructors = TermSecrets.class.getDeclaredConstructors();
        due("one public constructor without parameters", constructors.length == 1
            && constructors[0].getParameterCount() == 0 && Modifier.isPublic(constructors[0].getModifiers()));
    }

    private static void checkMethods() {
        Set<String> seen = new TreeSet<>();
        Set<String> publicNames = new HashSet<>();
        for (Method method : TermSecrets.class.getDeclaredMethods()) {
            if (Modifier.isPublic(method.getModifiers()) && !Modifier.isStatic(method.getModifiers())) {
                seen.add(told(method));
                publicNames.add(method.getName());
            }
        }
        due("the public methods are those of the document, not " + seen, seen.equals(FACE));
        for (Method method : TermSecrets.class.getDeclaredMethods()) {
            if (!seen.contains(told(method))) {
                due(method + " is private", Modifier.isPrivate(method.getModifiers()));
                due(method + " has a name of its own", !publicNames.contains(method.getName()));
            }
            due(method + " takes at most seven parameters", method.getParameterCount() <= 7);
        }
    }

    private static String told(Method method) {
        String parameters = Arrays.toString(method.getParameterTypes());
        return method.getReturnType() + " " + method.getName()
            + "(" + parameters.substring(1, parameters.length() - 1) + ")";
    }

    private static void checkFields() {
        for (Field field : TermSecrets.class.getDeclaredFields()) {
            Class<?> type = field.getType();
            int modifiers = field.getModifiers();
            due(field + " is private", Modifier.isPrivate(modifiers));
            due(field + " holds numbers",
                NUMBERS.contains(type) || type.isArray() && NUMBERS.contains(type.getComponentType()));
            if (Modifier.isStatic(modifiers)) {
                due(field + " is a constant",
                    Modifier.isFinal(modifiers) && (type == int.class || type == long.class));
            }
        }
    }
}
