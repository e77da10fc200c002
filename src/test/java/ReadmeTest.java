import java.io.IOException;
import java.lang.reflect.Method;
import java.lang.reflect.Modifier;
import java.nio.file.Files;
import java.nio.file.Path;
import java.util.regex.Matcher;
import java.util.regex.Pattern;

/** The example of README.md answers what it says, and its tables hold every method. */
public final class ReadmeTest {
    // A comment that begins with a number tells the answer.
    private static final Pattern CALL =
        Pattern.compile("x\\.(\\w+)\\(([-0-9, ]+)\\);\\s*// (?:(-?\\d+)(?:$|:.*)|\\D.*)");

    public static void main(String[] args) throws ReflectiveOperationException, IOException {
        String readme = Files.readString(Path.of("README.md"));
        example(readme);
        tables(readme);
        Due.end();
    }

    private static void example(String readme) throws ReflectiveOperationException {
        String[] lines = readme.split("```java\n")[1].split("```")[0].split("\n");
        Due.same("first line", lines[0], "WeightedWords x = new WeightedWords();");
        WeightedWords x = new WeightedWords();
        for (int i = 1; i < lines.length; i++) {
            Matcher call = CALL.matcher(lines[i]);
            boolean read = call.matches();
            Due.same("a call with a comment: " + lines[i], read, true);
            if (read) {
                int answer = answer(x, call.group(1), call.group(2).split(", "));
                if (call.group(3) != null) {
                    Due.due(lines[i], answer, Integer.parseInt(call.group(3)));
                } else {
                    Due.same(lines[i] + " is not refused", answer >= 0, true);
                }
            }
        }
    }

    private static int answer(WeightedWords x, String name, String[] texts)
            throws ReflectiveOperationException {
        Object[] arguments = new Object[texts.length];
        Class<?>[] types = new Class<?>[texts.length];
        for (int i = 0; i < texts.length; i++) {
            arguments[i] = Integer.valueOf(texts[i]);
            types[i] = int.class;
        }
        return (int) WeightedWords.class.getMethod(name, types).invoke(x, arguments);
    }

    private static void tables(String readme) {
        for (Method method : WeightedWords.class.getDeclaredMethods()) {
            if (Modifier.isPublic(method.getModifiers())) {
                String others = "(, \\w+){" + (method.getParameterCount() - 1) + "}";
                Pattern row = Pattern.compile("\n\\| `" + method.getName() + "\\(\\w+" + others
                    + "\\)` \\|");
                Due.same(method + " in a table", row.matcher(readme).find(), true);
            }
        }
    }
}
