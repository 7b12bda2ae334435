import java.io.IOException;
import java.lang.reflect.Method;
import java.lang.reflect.Modifier;
import java.nio.file.Files;
import java.nio.file.Path;
import java.util.regex.Matcher;
import java.util.regex.Pattern;

/** README.md tells each call of the face, and what its example tells is what the hall answers. */
public final class ReadmeTest {
    private static final Pattern CALL =
            Pattern.compile("hall\\.(\\w+)\\(([^)]*)\\)(?: == 0\\))?(?:;| \\{)(?:\\s*// (-?\\d+)(?:$|:.*))?");

    private static int wrong = 0;
    private static int compared = 0;

    private static void want(boolean holds, String what) {
        if (!holds) {
            wrong++;
            System.out.println("does not hold: " + what);
        }
    }

    private static Object called(OrderHall hall, String name, String list) throws ReflectiveOperationException {
        String[] texts = list.isEmpty() ? new String[0] : list.split(", ");
        for (Method m : OrderHall.class.getMethods()) {
            if (m.getName().equals(name) && m.getParameterCount() == texts.length) {
                Object[] arguments = new Object[texts.length];
                for (int i = 0; i < texts.length; i++) {
                    boolean wide = m.getParameterTypes()[i] == long.class;
                    arguments[i] = wide ? (Object) Long.valueOf(texts[i]) : (Object) Integer.valueOf(texts[i]);
                }
                return m.invoke(hall, arguments);
            }
        }
        throw new NoSuchMethodException(name);
    }

    private static void example(String text) throws ReflectiveOperationException {
        OrderHall hall = new OrderHall();
        for (String line : text.split("\n")) {
            Matcher call = CALL.matcher(line);
            if (call.find()) {
                String answer = String.valueOf(called(hall, call.group(1), call.group(2)));
                if (call.group(3) != null) {
                    compared++;
                    want(answer.equals(call.group(3)), line.trim() + " (it answers " + answer + ")");
                }
            }
        }
        want(compared >= 10, "the example tells ten answers and more");
    }

    private static void everyCall(String text) {
        for (Method m : OrderHall.class.getMethods()) {
            boolean own = m.getDeclaringClass() == OrderHall.class && Modifier.isPublic(m.getModifiers());
            want(!own || text.contains("`" + m.getName() + "("), "README.md tells " + m.getName());
        }
        want(text.contains(".ci/run"), "README.md tells how the tests are run");
    }

    public static void main(String[] args) throws IOException, ReflectiveOperationException {
        String text = Files.readString(Path.of("README.md"));
        int begin = text.indexOf("```java");
        int end = text.indexOf("```", begin + 3);
        want(begin >= 0 && end > begin, "README.md has an example");
        if (wrong == 0) {
            example(text.substring(begin, end));
            everyCall(text);
        }
        System.out.println(compared + " told answers compared, " + wrong + " things are not as due");
        if (wrong != 0) {
            System.exit(1);
        }
    }
}
