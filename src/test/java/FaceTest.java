import java.lang.reflect.Constructor;
import java.lang.reflect.Executable;
import java.lang.reflect.Field;
import java.lang.reflect.Method;
import java.lang.reflect.Modifier;
import java.util.ArrayList;
import java.util.Arrays;
import java.util.Collections;
import java.util.List;

/** "The public face", by what the compiled class has: all of it, with its throws clauses, and nothing beside it. */
public final class FaceTest extends Due {
    private static final String STATE_INDEX = " throws IllegalStateException, IndexOutOfBoundsException";
    private static final String ALL_THREE = STATE_INDEX + ", IllegalArgumentException";
    private static final String[] METHODS = {
        "int about(int, int)" + STATE_INDEX,
        "void clear()",
        "int corner(int, int)" + STATE_INDEX,
        "int covered(int, int)" + STATE_INDEX,
        "int curve(int, int)" + STATE_INDEX,
        "int curves(int, int) throws IllegalStateException, IllegalArgumentException",
        "boolean near(int, int, int)" + ALL_THREE,
        "int piece(int, int, int, int)" + ALL_THREE,
        "int place(int, int, int)" + ALL_THREE,
        "int point(int, int, int)" + ALL_THREE,
        "int polygon(int, int)" + ALL_THREE,
        "int put(int, int, int, int) throws IndexOutOfBoundsException, IllegalArgumentException",
        "int told(int)",
        "int trace(int, int) throws IllegalArgumentException",
    };

    public static void main(String[] args) {
        theClass();
        methods();
        constants();
        namesOfTheFace();
        end();
    }

    private static void theClass() {
        sentence("public final class OutlineCurves");
        Class<?> face = OutlineCurves.class;
        due("modifiers", Modifier.toString(face.getModifiers()), "public final");
        due("the class above", face.getSuperclass().getSimpleName(), "Object");
        due("interfaces", face.getInterfaces().length, 0);
        Constructor<?>[] made = face.getDeclaredConstructors();
        due("constructors", made.length, 1);
        due("constructor", Modifier.toString(made[0].getModifiers()) + " " + tail(made[0]), "public (int, int)");
    }

    private static void methods() {
        sentence("the methods of the face, and no other that is not private");
        List<String> open = new ArrayList<>();
        for (Method method : OutlineCurves.class.getDeclaredMethods()) {
            if (Modifier.isPrivate(method.getModifiers()) || method.isSynthetic()) {
                continue;
            }
            due("modifiers of " + method.getName(), Modifier.toString(method.getModifiers()), "public");
            open.add(method.getReturnType() + " " + method.getName() + tail(method));
        }
        List<String> told = new ArrayList<>(Arrays.asList(METHODS));
        Collections.sort(open);
        Collections.sort(told);
        due("methods", String.join("; ", open), String.join("; ", told));
    }

    private static String tail(Executable called) {
        return "(" + names(called.getParameterTypes()) + ")"
                + (called.getExceptionTypes().length == 0 ? "" : " throws " + names(called.getExceptionTypes()));
    }

    private static String names(Class<?>[] types) {
        List<String> names = new ArrayList<>();
        for (Class<?> type : types) {
            names.add(type.getSimpleName());
        }
        return String.join(", ", names);
    }

    private static void constants() {
        sentence("public static final int NONE = -1, and no other field that is not private");
        int open = 0;
        for (Field field : OutlineCurves.class.getDeclaredFields()) {
            int kind = field.getModifiers();
            open += Modifier.isPrivate(kind) ? 0 : 1;
            due(field.getName() + " is final", Modifier.isFinal(kind), true);
            if (field.getName().equals("NONE")) {
                due("NONE", Modifier.toString(kind) + " " + field.getType(), "public static final int");
            }
        }
        due("fields that are not private", open, 1);
        due("NONE", OutlineCurves.NONE, -1);
    }

    /** LANGUAGE.md, 1: inside, too, none bears a name of the face, so that a call tells which one is meant. */
    private static void namesOfTheFace() {
        sentence("no private method bears the name of a public one");
        List<String> face = new ArrayList<>();
        for (String method : METHODS) {
            face.add(method.substring(method.indexOf(' ') + 1, method.indexOf('(')));
        }
        for (Method method : OutlineCurves.class.getDeclaredMethods()) {
            if (Modifier.isPrivate(method.getModifiers())) {
                due(method.getName() + " is of the face", face.contains(method.getName()), false);
            }
        }
        for (Class<?> inside : OutlineCurves.class.getDeclaredClasses()) {
            due(inside.getSimpleName() + " is static", Modifier.isStatic(inside.getModifiers()), true);
            for (Method method : inside.getDeclaredMethods()) {
                due(method.getName() + " is of the face", face.contains(method.getName()), false);
            }
        }
    }
}
