import java.lang.reflect.Constructor;
import java.lang.reflect.Field;
import java.lang.reflect.Method;
import java.lang.reflect.Modifier;
import java.util.Arrays;
import java.util.TreeSet;

/** The document's face, and no member beside it that another class could use. */
public final class FaceTest {
    private static final String ALL = "IndexOutOfBoundsException IllegalStateException "
            + "IllegalArgumentException UnsupportedOperationException";
    private static final String NO_ARGUMENT = "IndexOutOfBoundsException IllegalStateException "
            + "UnsupportedOperationException";
    private static final String TWO = "IndexOutOfBoundsException IllegalStateException";
    private static final String ONE = "IndexOutOfBoundsException";

    private static final String[] METHODS = {
        "void spawn(int) " + TWO,
        "int guard(int,int,int,int,boolean) " + ALL,
        "int timeout(int,int) " + ALL,
        "int offer(int) " + NO_ARGUMENT,
        "int step(int) " + TWO,
        "int tick() ",
        "boolean cancel(int) " + NO_ARGUMENT,
        "int finish(int) " + NO_ARGUMENT,
        "int process(int,int) " + TWO,
        "int waiting(int,int,int) " + ONE,
        "int pair(int,int) " + ONE,
        "int run(int,int) IllegalArgumentException IllegalStateException",
        "int count(int) ",
    };

    public static void main(String[] args) {
        Check check = new Check();
        Class<RendezvousDesk> face = RendezvousDesk.class;
        check.due("public and final", Modifier.PUBLIC | Modifier.FINAL, face.getModifiers());
        check.due("NONE", -1, RendezvousDesk.NONE);
        methods(check, face);
        for (Field field : face.getDeclaredFields()) {
            boolean isNone = field.getName().equals("NONE");
            check.due("private: " + field, !isNone, Modifier.isPrivate(field.getModifiers()));
            check.due("public: " + field, isNone, Modifier.isPublic(field.getModifiers()));
        }
        Constructor<?>[] constructors = face.getDeclaredConstructors();
        check.due("constructors", 1, constructors.length);
        check.due("a public constructor", true, Modifier.isPublic(constructors[0].getModifiers()));
        check.due("its parameters", 0, constructors[0].getParameterCount());
        for (Class<?> inside : face.getDeclaredClasses()) {
            check.due("static: " + inside, true, Modifier.isStatic(inside.getModifiers()));
            check.due("public: " + inside, false, Modifier.isPublic(inside.getModifiers()));
        }
        check.exitIfWrong();
    }

    private static void methods(Check check, Class<?> face) {
        TreeSet<String> missing = new TreeSet<>(Arrays.asList(METHODS));
        TreeSet<String> names = new TreeSet<>();
        for (String method : METHODS) {
            names.add(method.substring(method.indexOf(' ') + 1, method.indexOf('(')));
        }
        for (Method method : face.getDeclaredMethods()) {
            if (Modifier.isPrivate(method.getModifiers())) {
                check.due("a private " + method.getName(), false, names.contains(method.getName()));
            } else {
                check.due("of the face: " + written(method), true, missing.remove(written(method)));
            }
        }
        check.due("missing " + missing, 0, missing.size());
    }

    private static String written(Method method) {
        StringBuilder text = new StringBuilder(method.getReturnType().getName());
        text.append(' ').append(method.getName()).append('(');
        for (int i = 0; i < method.getParameterCount(); i++) {
            text.append(i == 0 ? "" : ",").append(method.getParameterTypes()[i].getName());
        }
        text.append(") ");
        for (int i = 0; i < method.getExceptionTypes().length; i++) {
            text.append(i == 0 ? "" : " ").append(method.getExceptionTypes()[i].getSimpleName());
        }
        return text.toString();
    }
}
