import java.lang.reflect.Method;
import java.lang.reflect.Modifier;
import java.nio.file.Files;
import java.nio.file.Path;
import java.util.regex.Matcher;
import java.util.regex.Pattern;

/** README.md says how to use the class: its example answers what it says, and it names every call of the face. */
public final class ReadmeTest {
    private static final Pattern TEXT = Pattern.compile("String text = \"([^\"]*)\";");
    private static final Pattern CALL = Pattern.compile("x\\.(\\w+)\\(([\\d, ]*)\\); +// (-?\\d+)");
    private static final int CALLS_OF_THE_EXAMPLE = 20;

    public static void main(String[] args) throws Exception {
        String readme = Files.readString(Path.of("README.md"));
        example(readme);
        callsNamed(readme);
        Check.due("README.md says how to run the tests", readme.contains(".ci/run") ? 1 : 0, 1);
        Check.end();
    }

    private static void example(String readme) throws Exception {
        Matcher text = TEXT.matcher(readme);
        Check.due("README.md has a text", text.find() ? 1 : 0, 1);
        LeaningWalls x = Check.written(text.group(1));
        int calls = 0;
        Matcher call = CALL.matcher(readme);
        while (call.find()) {
            Check.due(call.group(), answer(x, call.group(1), call.group(2)), Integer.parseInt(call.group(3)));
            calls++;
        }
        Check.due("calls of the example", calls, CALLS_OF_THE_EXAMPLE);
    }

    private static int answer(LeaningWalls x, String name, String numbers) throws Exception {
        String[] parts = numbers.isEmpty() ? new String[0] : numbers.split(", *");
        Class<?>[] types = new Class<?>[parts.length];
        Object[] given = new Object[parts.length];
        for (int i = 0; i < parts.length; i++) {
            types[i] = int.class;
            given[i] = Integer.valueOf(parts[i].trim());
        }
        return (int) LeaningWalls.class.getMethod(name, types).invoke(x, given);
    }

    private static void callsNamed(String readme) {
        for (Method method : LeaningWalls.class.getDeclaredMethods()) {
            if (Modifier.isPublic(method.getModifiers())) {
                boolean isNamed = readme.contains("`" + method.getName() + "(");
                Check.due("README.md names " + method.getName(), isNamed ? 1 : 0, 1);
            }
        }
    }
}
