import java.io.IOException;
import java.lang.reflect.Method;
import java.lang.reflect.Modifier;
import java.nio.file.Files;
import java.nio.file.Path;
import java.util.List;
import java.util.regex.Matcher;
import java.util.regex.Pattern;

/** README.md: its example answers what it says, and its tables name every method of the face. */
public final class ReadmeTest {
    private static final Due due = new Due();
    private static final Pattern CALL = Pattern.compile("locks\\.(\\w+)\\((.*)\\);\\s*// (-?\\d+): .*");

    public static void main(String[] args) throws IOException, ReflectiveOperationException {
        List<String> readme = Files.readAllLines(Path.of("README.md"));
        example(readme);
        tables(readme);
        due.end();
    }

    private static void example(List<String> readme) throws ReflectiveOperationException {
        int first = readme.indexOf("```java") + 1;
        int end = first + readme.subList(first, readme.size()).indexOf("```");
        due.is("the example's first line", "RecordLocks locks = new RecordLocks();", readme.get(first));
        due.is("the example has calls", true, end > first + 1);
        RecordLocks locks = new RecordLocks();
        for (String line : readme.subList(first + 1, end)) {
            Matcher call = CALL.matcher(line);
            due.is("a call with its answer: " + line, true, call.matches());
            if (call.matches()) {
                int want = Integer.parseInt(call.group(3));
                due.is(line, want, Due.answer(locks, call.group(1), values(call.group(2))));
            }
        }
    }

    private static int[] values(String arguments) throws ReflectiveOperationException {
        String[] words = arguments.isEmpty() ? new String[0] : arguments.split(", ");
        int[] values = new int[words.length];
        for (int place = 0; place < words.length; place++) {
            values[place] = value(words[place]);
        }
        return values;
    }

    private static int value(String word) throws ReflectiveOperationException {
        String constant = "RecordLocks.";
        if (word.startsWith(constant)) {
            return RecordLocks.class.getField(word.substring(constant.length())).getInt(null);
        }
        return Integer.parseInt(word);
    }

    private static void tables(List<String> readme) {
        for (Method method : RecordLocks.class.getDeclaredMethods()) {
            if (Modifier.isPublic(method.getModifiers())) {
                String row = "| `" + method.getName() + "(";
                long rows = readme.stream().filter(line -> line.startsWith(row)).count();
                due.is("rows of " + method.getName(), 1L, rows);
            }
        }
    }
}
