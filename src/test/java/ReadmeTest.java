import java.io.IOException;
import java.lang.reflect.Method;
import java.lang.reflect.Modifier;
import java.nio.file.Files;
import java.nio.file.Path;
import java.util.regex.Matcher;
import java.util.regex.Pattern;

/** README.md is held to its word: its example is run row by row, and its table has every call with its promise. */
public final class ReadmeTest extends Asking {
    private static final Path README = Path.of("README.md");
    private static final Path DOCUMENT = Path.of("../shared/DOC.md");
    private static final Pattern EXAMPLE = Pattern.compile("```java\n(.*?)```", Pattern.DOTALL);
    private static final Pattern TOLD = Pattern.compile("\"(\\w+)\"\\.toCharArray\\(\\)");
    private static final Pattern CALL = Pattern.compile("sky\\.(\\w+)\\(([^)]*)\\); +// (-?\\d+)\\b.*");
    private static final Pattern ROW = Pattern.compile("\\| `(\\w+)\\(([^)]*)\\)` \\| (\\d+): [^|]*\\| ([A-Z, ]*)\\|");
    private static final Pattern REFUSAL = Pattern.compile("UNKNOWN|BAD|LATE|FULL");

    public static void main(String[] args) throws IOException, ReflectiveOperationException {
        String page = Files.readString(README);
        example(page);
        table(page);
        end();
    }

    private static void example(String page) throws ReflectiveOperationException {
        asksOf("README.md, the example");
        Matcher example = EXAMPLE.matcher(page);
        Matcher text = TOLD.matcher(page);
        if (!example.find() || !text.find()) {
            fails("there is none");
            return;
        }
        SkyTenders sky = new SkyTenders();
        type(sky, text.group(1));
        for (String line : example.group(1).split("\n")) {
            Matcher call = CALL.matcher(line);
            if (call.matches()) {
                long got = answer(sky, call.group(1), call.group(2));
                due(got, Long.parseLong(call.group(3)));
            } else if (line.startsWith("sky.")) {
                fails("no answer can be read: " + line);
            }
        }
    }

    private static long answer(SkyTenders sky, String name, String told) throws ReflectiveOperationException {
        Method method = callOf(name);
        if (method == null) {
            fails("there is no call " + name);
            return 0;
        }
        String[] words = told.isEmpty() ? new String[0] : told.split(", ");
        Class<?>[] types = method.getParameterTypes();
        Object[] arguments = new Object[types.length];
        for (int i = 0; i < types.length; i++) {
            String word = words[i].replace("L", "");
            arguments[i] = types[i] == boolean.class ? (Object) Boolean.valueOf(word)
                    : types[i] == long.class ? (Object) Long.valueOf(word) : (Object) Integer.valueOf(word);
        }
        return ((Number) method.invoke(sky, arguments)).longValue();
    }

    private static Method callOf(String name) {
        for (Method method : SkyTenders.class.getDeclaredMethods()) {
            if (Modifier.isPublic(method.getModifiers()) && method.getName().equals(name)) {
                return method;
            }
        }
        return null;
    }

    /** Each row names a call of the class; the promise of its number is that call's, with the same refusals. */
    private static void table(String page) throws IOException {
        asksOf("README.md, the table");
        String document = Files.exists(DOCUMENT) ? Files.readString(DOCUMENT) : "";
        int rows = 0;
        Matcher row = ROW.matcher(page);
        while (row.find()) {
            rows++;
            String name = row.group(1);
            Method method = callOf(name);
            int told = row.group(2).isEmpty() ? 0 : row.group(2).split(", ").length;
            if (method == null || method.getParameterCount() != told) {
                fails("there is no such call: " + row.group());
            }
            if (!document.isEmpty()) {
                asDocument(document, name, row.group(3), row.group(4));
            }
        }
        int calls = 0;
        for (Method method : SkyTenders.class.getDeclaredMethods()) {
            calls += Modifier.isPublic(method.getModifiers()) ? 1 : 0;
        }
        due(rows, calls);
    }

    private static void asDocument(String document, String name, String number, String refusals) {
        int start = document.indexOf("## Promise " + number + ": " + name + "\n");
        if (start < 0) {
            fails(name + " is not promise " + number);
            return;
        }
        int stop = document.indexOf("\n## ", start);
        String promise = document.substring(start, stop < 0 ? document.length() : stop);
        String due = refusalsIn(promise);
        if (!refusalsIn(refusals).equals(due)) {
            fails(name + " refuses by" + due);
        }
    }

    private static String refusalsIn(String told) {
        StringBuilder all = new StringBuilder();
        Matcher refusal = REFUSAL.matcher(told);
        while (refusal.find()) {
            all.append(' ').append(refusal.group());
        }
        return all.toString();
    }
}
