import java.lang.reflect.Constructor;
import java.lang.reflect.Executable;
import java.lang.reflect.Field;
import java.lang.reflect.Method;
import java.lang.reflect.Modifier;
import java.util.ArrayList;
import java.util.Arrays;
import java.util.HashSet;
import java.util.List;
import java.util.Set;

/** The face of the class is the document's to the letter, and all else of it is private. */
public final class FaceTests {
    private static final String[] FACE = {
        "int turn() IllegalStateException",
        "int tie(int,int,int) IndexOutOfBoundsException,IllegalArgumentException,IllegalStateException",
        "int cut(int,int) IndexOutOfBoundsException,IllegalArgumentException",
        "boolean knot(int) IndexOutOfBoundsException",
        "int tighten()",
        "int told(int,int) IndexOutOfBoundsException",
        "int about(int,int) IndexOutOfBoundsException",
        "int count(int) IndexOutOfBoundsException",
        "boolean holds()",
        "int late(int,int) IndexOutOfBoundsException,IllegalArgumentException,IllegalStateException",
        "int most(int,int) IndexOutOfBoundsException,IllegalStateException",
        "int room(int) IndexOutOfBoundsException,IllegalStateException",
        "boolean would(int,int,int) IndexOutOfBoundsException,IllegalArgumentException",
        "int at(int) IndexOutOfBoundsException,IllegalStateException",
        "int advise()",
        "double mean()",
        "long digest()",
    };

    private static int wrong = 0;

    public static void main(String[] args) {
        checkClass();
        checkMethods();
        checkFields();
        System.out.println(wrong + " faults of the face");
        if (wrong != 0) {
            System.exit(1);
        }
    }

    private static void check(boolean good, String fault) {
        if (!good) {
            wrong++;
            System.out.println(fault);
        }
    }

    private static void checkClass() {
        check(Modifier.isPublic(RopeTimes.class.getModifiers()), "the class is not public");
        check(Modifier.isFinal(RopeTimes.class.getModifiers()), "the class is not final");
        check(RopeTimes.class.getPackageName().isEmpty(), "the class has a package");
        Constructor<?>[] made = RopeTimes.class.getDeclaredConstructors();
        check(made.length == 1, "there are " + made.length + " constructors");
        check(Modifier.isPublic(made[0].getModifiers()), "the constructor is not public");
        check(made[0].getParameterCount() == 0, "the constructor has parameters");
        check(thrown(made[0]).isEmpty(), "the constructor names an exception");
    }

    private static void checkMethods() {
        Set<String> left = new HashSet<>(Arrays.asList(FACE));
        Set<String> names = new HashSet<>();
        List<Method> others = new ArrayList<>();
        for (Method method : RopeTimes.class.getDeclaredMethods()) {
            if (Modifier.isPrivate(method.getModifiers())) {
                others.add(method);
            } else {
                names.add(method.getName());
                check(left.remove(faceOf(method)), "not of the face: " + faceOf(method));
                check(Modifier.isPublic(method.getModifiers()), "not public: " + method.getName());
                check(!Modifier.isStatic(method.getModifiers()), "static: " + method.getName());
            }
        }
        check(left.isEmpty(), "missing: " + left);
        for (Method method : others) {
            check(!names.contains(method.getName()), "private, by a public name: " + method.getName());
        }
    }

    private static void checkFields() {
        for (Field field : RopeTimes.class.getDeclaredFields()) {
            int modifiers = field.getModifiers();
            check(Modifier.isPrivate(modifiers), "a field that is not private: " + field.getName());
            check(!Modifier.isStatic(modifiers) || Modifier.isFinal(modifiers),
                    "a static field that is not final: " + field.getName());
        }
    }

    private static String faceOf(Method method) {
        List<String> parameters = new ArrayList<>();
        for (Class<?> type : method.getParameterTypes()) {
            parameters.add(type.getSimpleName());
        }
        String head = method.getReturnType().getSimpleName() + " " + method.getName();
        return (head + "(" + String.join(",", parameters) + ") " + thrown(method)).trim();
    }

    private static String thrown(Executable method) {
        List<String> names = new ArrayList<>();
        for (Class<?> type : method.getExceptionTypes()) {
            names.add(type.getSimpleName());
        }
        return String.join(",", names);
    }
}
