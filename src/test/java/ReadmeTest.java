import java.io.IOException;
import java.lang.reflect.Method;
import java.lang.reflect.Modifier;
import java.nio.file.Files;
import java.nio.file.Path;
import java.util.Arrays;
import java.util.regex.Matcher;
import java.util.regex.Pattern;

/** README.md says what is so: its example answers as it says, its text can be read, and it names each call. */
public final class ReadmeTest {
    private static final Pattern CALL = Pattern.compile("net\\.(\\w+)\\(([^)]*)\\);\\s*// (-?\\d+|true|false)\\b.*");
    private static final Due due = new Due("ReadmeTest");

    public static void main(String[] args) throws Exception {
        String readme = Files.readString(Path.of(System.getProperty("readme", "README.md")));
        example(block(readme, "java"));
        text(block(readme, "text").trim());
        namesAll(readme);
        due.close();
    }

    private static String block(String readme, String kind) throws IOException {
        Matcher found = Pattern.compile("```" + kind + "\n(.*?)```", Pattern.DOTALL).matcher(readme);
        if (!found.find()) {
            throw new IOException("README.md has no block of " + kind);
        }
        return found.group(1);
    }

    private static void example(String rows) throws ReflectiveOperationException {
        LabelStacks net = new LabelStacks();
        for (String row : rows.split("\n")) {
            Matcher call = CALL.matcher(row);
            if (call.matches()) {
                due.is(row, answer(net, call.group(1), call.group(2)), number(call.group(3)));
            } else {
                due.is("a row without an answer: " + row, row.isBlank() || row.contains("= new LabelStacks()"), true);
            }
        }
    }

    private static long answer(LabelStacks net, String name, String given) throws ReflectiveOperationException {
        Object[] numbers = given.isEmpty() ? new Object[0]
            : Arrays.stream(given.split(", ")).map(Integer::valueOf).toArray();
        for (Method method : LabelStacks.class.getDeclaredMethods()) {
            if (method.getName().equals(name) && method.getParameterCount() == numbers.length) {
                return number(String.valueOf(method.invoke(net, numbers)));
            }
        }
        throw new NoSuchMethodException(name);
    }

    private static long number(String answer) {
        return answer.equals("true") ? 1 : answer.equals("false") ? 0 : Long.parseLong(answer);
    }

    private static void text(String text) {
        LabelStacks net = new LabelStacks();
        Due.feedAll(net, text);
        due.is("links of " + text, net.text(), 2);
        due.is("up links of " + text, net.look(2), 1);
        due.is("bindings of " + text, net.look(6), 1);
        due.is("labels of " + text, net.binding(0, 1), 2);
    }

    private static void namesAll(String readme) {
        for (Method method : LabelStacks.class.getDeclaredMethods()) {
            if (Modifier.isPublic(method.getModifiers())) {
                due.is("README.md names " + method.getName(), readme.contains("`" + method.getName() + "`"), true);
            }
        }
    }
}
