import java.io.IOException;
import java.lang.reflect.Method;
import java.lang.reflect.Modifier;
import java.nio.file.Files;
import java.nio.file.Path;
import java.util.List;
import java.util.regex.Matcher;
import java.util.regex.Pattern;

/** README.md: its examples do what they say, and its table has every call of the face. */
public final class ReadmeTest {
    private static final String NEW_DESK = "RendezvousDesk desk = new RendezvousDesk();";
    private static final Pattern CALL = Pattern.compile("desk\\.(\\w+)\\(([^)]*)\\);(.*)");
    // Only a comment that opens with an answer promises one.
    private static final Pattern ANSWER = Pattern.compile("\\s*// (-?\\d+|true|false)\\b.*");

    private final Check check = new Check();
    private RendezvousDesk desk;
    private int answers = 0;

    public static void main(String[] args) throws IOException, ReflectiveOperationException {
        List<String> readme = Files.readAllLines(Path.of("README.md"));
        ReadmeTest test = new ReadmeTest();
        test.examples(readme);
        test.table(readme);
        test.check.exitIfWrong();
    }

    private void examples(List<String> readme) throws ReflectiveOperationException {
        boolean inExample = false;
        for (String line : readme) {
            if (line.startsWith("```")) {
                inExample = line.equals("```java");
            } else if (inExample) {
                play(line);
            }
        }
        check.due("answers told in examples, at least one,", true, answers > 0);
    }

    private void play(String line) throws ReflectiveOperationException {
        if (line.equals(NEW_DESK)) {
            desk = new RendezvousDesk();
            return;
        }
        Matcher call = CALL.matcher(line);
        boolean isCall = call.matches();
        check.due("a call of a desk: " + line, true, isCall && desk != null);
        if (!isCall || desk == null) {
            return;
        }
        Object got = answerOf(call.group(1), call.group(2).split(", "));
        Matcher told = ANSWER.matcher(call.group(3));
        if (told.matches()) {
            answers++;
            check.due(line + " answered " + got + ":", true, told.group(1).equals(String.valueOf(got)));
        }
    }

    private Object answerOf(String name, String[] written) throws ReflectiveOperationException {
        Method method = methodOfTheFace(name);
        Class<?>[] types = method.getParameterTypes();
        Object[] values = new Object[types.length];
        for (int i = 0; i < types.length; i++) {
            if (types[i] == boolean.class) {
                values[i] = Boolean.valueOf(written[i]);
            } else {
                values[i] = Integer.valueOf(written[i]);
            }
        }
        return method.invoke(desk, values);
    }

    private static Method methodOfTheFace(String name) throws NoSuchMethodException {
        for (Method method : RendezvousDesk.class.getDeclaredMethods()) {
            if (Modifier.isPublic(method.getModifiers()) && method.getName().equals(name)) {
                return method;
            }
        }
        throw new NoSuchMethodException(name);
    }

    private void table(List<String> readme) {
        String all = String.join("\n", readme);
        check.due("a row for the constructor", true, all.contains("\n| `RendezvousDesk()` |"));
        for (Method method : RendezvousDesk.class.getDeclaredMethods()) {
            if (Modifier.isPublic(method.getModifiers())) {
                String row = "\n| `" + method.getReturnType().getName() + " " + method.getName() + "(";
                check.due("a row for " + method.getName() + "()", true, all.contains(row));
            }
        }
    }
}
