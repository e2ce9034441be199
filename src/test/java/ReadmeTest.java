import java.lang.reflect.InvocationTargetException;
import java.lang.reflect.Method;
import java.nio.file.Files;
import java.nio.file.Path;
import java.util.HashMap;
import java.util.Map;
import java.util.regex.Matcher;
import java.util.regex.Pattern;

/** Makes the calls of README.md's examples, and asks for the answers with which their comments begin. */
public final class ReadmeTest {
    private static final Pattern BLOCK = Pattern.compile("(?s)```java\n(.*?)```");
    private static final Pattern LINE = Pattern.compile("(?:int (\\w+) = )?x\\.(\\w+)\\(([^)]*)\\); +// (.*)");
    private static final Check check = new Check();
    private static final SlotServer x = new SlotServer();
    private static final Map<String, String> variables = new HashMap<>();

    public static void main(String[] args) throws Exception {
        Matcher blocks = BLOCK.matcher(Files.readString(Path.of("README.md")));
        int lines = 0;
        while (blocks.find()) {
            for (String line : blocks.group(1).split("\n")) {
                lines++;
                makeLine(lines, line);
            }
        }
        check.due("lines of examples", lines > 20, true);
        check.end();
    }

    private static void makeLine(int at, String line) throws Exception {
        if (at == 1) {
            check.same("the first line", line, "SlotServer x = new SlotServer();");
            return;
        }
        Matcher parts = LINE.matcher(line);
        check.due("a call with a comment: " + line, parts.matches(), true);
        Method method = methodNamed(parts.group(2));
        String answer = String.valueOf(answerTo(method, parts.group(3)));
        if (parts.group(1) != null) {
            variables.put(parts.group(1), answer);
        }
        if (method.getReturnType() != void.class) {
            check.same(line, answer, valueOf(parts.group(4).split(":")[0]));
        }
    }

    private static Method methodNamed(String name) {
        for (Method m : SlotServer.class.getMethods()) {
            if (m.getName().equals(name) && m.getDeclaringClass() == SlotServer.class) {
                return m;
            }
        }
        throw new IllegalArgumentException(name);
    }

    private static Object answerTo(Method method, String list) throws IllegalAccessException, InvocationTargetException {
        String[] written = list.isEmpty() ? new String[0] : list.split(", ");
        Object[] arguments = new Object[written.length];
        for (int i = 0; i < written.length; i++) {
            String value = valueOf(written[i]);
            boolean flag = method.getParameterTypes()[i] == boolean.class;
            arguments[i] = flag ? (Object) Boolean.valueOf(value) : (Object) Integer.valueOf(value);
        }
        return method.invoke(x, arguments);
    }

    /** A number or flag stands for itself; a name for a variable or a constant of the class. */
    private static String valueOf(String word) {
        if (variables.containsKey(word)) {
            return variables.get(word);
        }
        try {
            return String.valueOf(SlotServer.class.getField(word.replace("SlotServer.", "")).getInt(null));
        } catch (ReflectiveOperationException e) {
            return word;
        }
    }
}
