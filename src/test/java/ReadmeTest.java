import java.io.IOException;
import java.lang.reflect.Method;
import java.lang.reflect.Modifier;
import java.nio.file.Files;
import java.nio.file.Path;
import java.util.regex.Matcher;
import java.util.regex.Pattern;

/** What README.md shows is what the class answers, and no call is left out of it. */
public final class ReadmeTest {
    private static final Pattern CALL =
            Pattern.compile("x\\.(\\w+)\\(([^)]*)\\);\\s*//\\s*(-?\\d+)\\b.*");
    private static final String NEW_OBJECT = "ThinRow x = new ThinRow();";

    private ReadmeTest() {
    }

    private static int argument(String word) {
        return (int) (long) Long.decode(word.trim());
    }

    private static int answer(ThinRow x, String name, String words) throws ReflectiveOperationException {
        String[] parts = words.isBlank() ? new String[0] : words.split(",");
        Class<?>[] types = new Class<?>[parts.length];
        Object[] numbers = new Object[parts.length];
        for (int i = 0; i < parts.length; i++) {
            types[i] = int.class;
            numbers[i] = argument(parts[i]);
        }
        return (Integer) ThinRow.class.getMethod(name, types).invoke(x, numbers);
    }

    /** A line that is neither a call with its answer, nor a new object, nor a comment is a fault. */
    private static void runExamples(Check check, String readme) throws ReflectiveOperationException {
        ThinRow x = null;
        boolean inside = false;
        for (String told : readme.split("\n")) {
            String text = told.trim();
            Matcher call = CALL.matcher(text);
            if (text.startsWith("```")) {
                inside = text.equals("```java");
            } else if (inside && text.equals(NEW_OBJECT)) {
                x = new ThinRow();
            } else if (inside && x != null && call.matches()) {
                check.due("README.md: " + text, answer(x, call.group(1), call.group(2)),
                        Integer.parseInt(call.group(3)));
            } else if (inside && !text.isEmpty()) {
                check.due("README.md: is a comment: " + text, text.startsWith("//") ? 1 : 0, 1);
            }
        }
    }

    private static void namesEachCall(Check check, String readme) {
        for (Method m : ThinRow.class.getDeclaredMethods()) {
            if (Modifier.isPublic(m.getModifiers())) {
                check.due("README.md tells of " + m.getName(),
                        readme.contains("`" + m.getName() + "(") ? 1 : 0, 1);
                check.due("README.md shows " + m.getName(),
                        readme.contains("x." + m.getName() + "(") ? 1 : 0, 1);
            }
        }
    }

    public static void main(String[] args) throws IOException, ReflectiveOperationException {
        Check check = new Check("ReadmeTest");
        String readme = Files.readString(Path.of("README.md"));
        runExamples(check, readme);
        namesEachCall(check, readme);
        check.close();
    }
}
