import java.io.IOException;
import java.lang.reflect.Method;
import java.nio.file.Files;
import java.nio.file.Path;
import java.util.regex.Matcher;
import java.util.regex.Pattern;

/** README.md's example and tables, held to what the class answers; run from the project's folder. */
public final class ReadmeTest {
    private static final Check CHECK = new Check();
    private static final Pattern TYPED = Pattern.compile("\"(.*)\"\\.toCharArray\\(\\)");
    private static final Pattern CALL = Pattern.compile("x\\.(\\w+)\\((.*)\\); +// ([^:]+)(:.*)?");
    private static final Pattern READ_ROW = Pattern.compile("\\| `(.*)` \\| (\\d) \\| `?(.*?)`? \\|");
    private static final Pattern WRITTEN_ROW = Pattern.compile("\\| `(.*)` \\| (\\d+) \\| `(.*)` \\|");
    private static final int LEAST_CALLS = 19;
    private static final int LEAST_READ_ROWS = 14;
    private static final int LEAST_WRITTEN_ROWS = 8;

    private static String[] lines = {};

    public static void main(String[] args) throws IOException, ReflectiveOperationException {
        lines = Files.readString(Path.of("README.md")).split("\n");
        example();
        int reads = 0;
        int writes = 0;
        for (int i = lineOf("### Texts that are read"); i < lineOf("### Numbers that are written"); i++) {
            reads += readRow(READ_ROW.matcher(lines[i]));
        }
        for (int i = lineOf("### Numbers that are written"); i < lineOf("## Tests"); i++) {
            writes += writtenRow(WRITTEN_ROW.matcher(lines[i]));
        }
        CHECK.same("rows of texts that are read", reads >= LEAST_READ_ROWS, true);
        CHECK.same("rows of numbers that are written", writes >= LEAST_WRITTEN_ROWS, true);
        CHECK.end();
    }

    private static int lineOf(String words) {
        for (int i = 0; i < lines.length; i++) {
            if (lines[i].equals(words)) {
                return i;
            }
        }
        CHECK.same("README.md has the line " + words, false, true);
        return 0;
    }

    private static void example() throws ReflectiveOperationException {
        DoubleTexts x = new DoubleTexts();
        int calls = 0;
        for (int i = lineOf("```java"); i < lineOf("```"); i++) {
            Matcher typed = TYPED.matcher(lines[i]);
            if (typed.find()) {
                Check.type(x, typed.group(1));
            }
            Matcher call = CALL.matcher(lines[i]);
            if (call.matches()) {
                CHECK.same("the example's " + lines[i], answer(x, call.group(1), call.group(2)), call.group(3));
                calls++;
            }
        }
        CHECK.same("calls of the example", calls >= LEAST_CALLS, true);
    }

    private static String answer(DoubleTexts x, String name, String words) throws ReflectiveOperationException {
        for (Method method : DoubleTexts.class.getDeclaredMethods()) {
            if (method.getName().equals(name)) {
                return String.valueOf(method.invoke(x, arguments(method.getParameterTypes(), words)));
            }
        }
        return "no such call";
    }

    private static Object[] arguments(Class<?>[] types, String words) {
        String[] parts = words.isEmpty() ? new String[0] : words.split(", ");
        Object[] values = new Object[parts.length];
        for (int i = 0; i < parts.length; i++) {
            if (types[i] == boolean.class) {
                values[i] = Boolean.valueOf(parts[i]);
            } else if (types[i] == long.class) {
                values[i] = Long.valueOf(parts[i]);
            } else {
                values[i] = Integer.valueOf(parts[i]);
            }
        }
        return values;
    }

    private static int readRow(Matcher row) {
        if (!row.matches()) {
            return 0;
        }
        DoubleTexts x = Check.typed(row.group(1));
        CHECK.same(row.group(1) + " is read", x.read(), Long.parseLong(row.group(2)));
        CHECK.same(row.group(1) + " is written", Check.written(x, 10), row.group(3));
        return 1;
    }

    private static int writtenRow(Matcher row) {
        if (!row.matches()) {
            return 0;
        }
        String written = Check.again(row.group(1), Integer.parseInt(row.group(2)));
        CHECK.same(row.group(1) + " is written", written, row.group(3));
        return 1;
    }
}
