import java.lang.reflect.Method;
import java.nio.file.Files;
import java.nio.file.Path;
import java.util.List;
import java.util.regex.Matcher;
import java.util.regex.Pattern;

/** The example in README.md: each call of it has to answer what the comment beside it says. */
public final class ReadmeTest {
    private static final String CALL_START = "store.";
    private static final Pattern CALL =
            Pattern.compile("store\\.(\\w+)\\(([-\\d, ]*)\\);\\s*// (-?\\d+|true|false)\\b.*");

    private static int wrong = 0;
    private static int calls = 0;

    public static void main(String[] args) throws Exception {
        CowTreeStore store = new CowTreeStore();
        for (String line : Files.readAllLines(Path.of("README.md"))) {
            if (line.startsWith(CALL_START)) {
                check(store, line);
            }
        }
        // Without this the test would pass if the example were taken out or written otherwise.
        if (calls == 0) {
            fail("no call found in README.md");
        }
        System.out.println(calls + " calls, " + wrong + " not as README.md says");
        System.exit(wrong == 0 ? 0 : 1);
    }

    private static void check(CowTreeStore store, String line) throws Exception {
        calls++;
        Matcher parts = CALL.matcher(line);
        if (!parts.matches()) {
            fail("not a call with its answer: " + line);
            return;
        }
        String got = answer(store, parts.group(1), parts.group(2));
        if (!got.equals(parts.group(3))) {
            fail("answered " + got + ": " + line);
        }
    }

    private static String answer(CowTreeStore store, String name, String numbers) throws Exception {
        List<String> texts = numbers.isBlank() ? List.of() : List.of(numbers.trim().split("\\s*,\\s*"));
        Object[] values = texts.stream().map(Integer::valueOf).toArray();
        Class<?>[] types = texts.stream().map(text -> int.class).toArray(Class<?>[]::new);
        Method method = CowTreeStore.class.getMethod(name, types);
        return String.valueOf(method.invoke(store, values));
    }

    private static void fail(String what) {
        wrong++;
        System.out.println(what);
    }
}
