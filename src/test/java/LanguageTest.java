import java.io.IOException;
import java.lang.reflect.Constructor;
import java.lang.reflect.Field;
import java.lang.reflect.InvocationTargetException;
import java.lang.reflect.Method;
import java.lang.reflect.Modifier;
import java.nio.file.Files;
import java.nio.file.Path;
import java.util.ArrayList;
import java.util.Arrays;
import java.util.List;
import java.util.Set;
import java.util.TreeSet;
import java.util.regex.Matcher;
import java.util.regex.Pattern;

/** The face of the document, the rules of LANGUAGE.md that can be seen from outside, and no call that throws. */
public final class LanguageTest {
    private static final Path SOURCE = Path.of("src/main/java/SkyTenders.java");

    private static final String[] FACE = {
        "int write(int)", "int wipe()", "int fault()", "int tender()", "int about(int)", "int field(int, int)",
        "int maker(int, int)", "int reprice(int, int)", "int restock(int, int)", "int want(int, int)",
        "int bear(int)", "int undo()", "int best()", "int cost(int)", "int gain(int, int)", "int ran(int)",
        "int least(int)", "int most(int)", "int holds(int)", "int judge(int, long)", "int share(int, boolean)",
        "int see(int, int, int)", "int unsee()", "int which(int)", "int gone(int, boolean)", "long seed(long)",
        "int drawn(int)", "int keep(int)", "int again(int)"};

    private static final String[] CONSTANTS = {"UNKNOWN=-1", "BAD=-2", "LATE=-3", "FULL=-4", "NONE=-9"};

    private static int wrong = 0;

    private static void rule(int number, boolean kept, String what) {
        if (!kept) {
            wrong++;
            System.out.println("rule " + number + ": " + what);
        }
    }

    public static void main(String[] args) throws IOException, ReflectiveOperationException {
        methodsOfTheFace();
        constantsOfTheFace();
        classesInside();
        words();
        rowsAreMadeOnce();
        shortMethods();
        noCallThrows();
        System.out.println(wrong == 0 ? "the face and the rules are kept" : wrong + " faults");
        if (wrong != 0) {
            System.exit(1);
        }
    }

    private static String told(Method method) {
        StringBuilder told = new StringBuilder();
        told.append(method.getReturnType().getSimpleName()).append(' ').append(method.getName()).append('(');
        String comma = "";
        for (Class<?> type : method.getParameterTypes()) {
            told.append(comma).append(type.getSimpleName());
            comma = ", ";
        }
        return told.append(')').toString();
    }

    private static void methodsOfTheFace() {
        Set<String> open = new TreeSet<>();
        Set<String> names = new TreeSet<>();
        for (Method method : SkyTenders.class.getDeclaredMethods()) {
            if (!Modifier.isPrivate(method.getModifiers())) {
                open.add(told(method));
                names.add(method.getName());
                rule(1, Modifier.isPublic(method.getModifiers()), method + " is half open");
                rule(1, !Modifier.isStatic(method.getModifiers()), method + " is static");
            }
        }
        rule(1, open.equals(new TreeSet<>(Arrays.asList(FACE))), "the methods are " + open);
        List<Class<?>> all = new ArrayList<>(Arrays.asList(SkyTenders.class.getDeclaredClasses()));
        all.add(SkyTenders.class);
        for (Class<?> type : all) {
            for (Method method : type.getDeclaredMethods()) {
                boolean face = type == SkyTenders.class && Modifier.isPublic(method.getModifiers());
                rule(1, face || !names.contains(method.getName()), method + " bears the name of a public one");
                rule(11, method.getParameterCount() <= 7, method + " has more than seven parameters");
            }
        }
        Constructor<?>[] made = SkyTenders.class.getDeclaredConstructors();
        rule(1, made.length == 1 && Modifier.isPublic(made[0].getModifiers()) && made[0].getParameterCount() == 0,
                "the constructors are " + Arrays.toString(made));
        rule(1, Modifier.isFinal(SkyTenders.class.getModifiers()), "the class is not final");
    }

    private static void constantsOfTheFace() throws ReflectiveOperationException {
        Set<String> open = new TreeSet<>();
        for (Field field : SkyTenders.class.getDeclaredFields()) {
            if (!Modifier.isPrivate(field.getModifiers())) {
                open.add(field.getName() + "=" + field.get(null));
            }
            rule(5, !Modifier.isStatic(field.getModifiers()) || Modifier.isFinal(field.getModifiers()),
                    field + " is static and not final");
        }
        rule(1, open.equals(new TreeSet<>(Arrays.asList(CONSTANTS))), "the constants are " + open);
    }

    private static void classesInside() {
        Class<?>[] inside = SkyTenders.class.getDeclaredClasses();
        rule(11, inside.length <= 11, "there are " + inside.length + " classes inside");
        for (Class<?> type : inside) {
            int how = type.getModifiers();
            rule(2, Modifier.isStatic(how), type + " is not static");
            rule(1, !Modifier.isPublic(how) && !Modifier.isProtected(how), type + " is open");
            int fields = 0;
            for (Field field : type.getDeclaredFields()) {
                fields += Modifier.isStatic(field.getModifiers()) ? 0 : 1;
            }
            rule(11, fields <= 20, type + " has " + fields + " fields");
        }
    }

    private static String bare() throws IOException {
        String source = Files.readString(SOURCE);
        rule(4, source.chars().allMatch(c -> c == '\n' || c >= 32 && c < 127), "a sign beyond 32 .. 126");
        return source.replaceAll("(?s)/\\*.*?\\*/", " ").replaceAll("//[^\n]*", " ");
    }

    private static void words() throws IOException {
        String source = bare();
        String[] refused = {"\\b(throw|throws|try|catch|finally|synchronized|assert|volatile|transient|native)\\b",
            "\\b(import|package|extends|var|yield|instanceof)\\b", "->", "::", "@", "\\bthis\\b", "\\bnull\\s*\\.",
            "Exact\\s*\\(", "\\bSystem\\b", "\\bRandom\\b", "\\bThread\\b", "\\bdouble\\b", "\\bfloat\\b",
            "\\bwhile\\b", "\"", "\\bstatic\\s*\\{"};
        for (String word : refused) {
            Matcher found = Pattern.compile(word).matcher(source);
            rule(6, !found.find(), "the program has " + word);
        }
        Matcher library = Pattern.compile("\\b(Integer|Long|Math|Arrays)\\s*\\.\\s*(\\w+)").matcher(source);
        while (library.find()) {
            rule(4, library.group(2).equals("bitCount"), "the library's " + library.group());
        }
    }

    /** So a call makes nothing, and a run needs no more room than its objects. */
    private static void rowsAreMadeOnce() throws IOException {
        for (String line : bare().split("\n")) {
            if (line.matches(".*\\bnew\\b.*")) {
                boolean first = line.matches("\\s*private final .* = new .*;");
                rule(12, first || line.contains("kept[slot] = new Tender()"), "made by a call: " + line.trim());
            }
        }
    }

    private static void shortMethods() throws IOException {
        int began = 0;
        int number = 0;
        for (String line : Files.readString(SOURCE).split("\n")) {
            number++;
            if (line.matches(" {4,8}(private|public) .*\\) \\{")) {
                began = number;
            }
            if (line.matches(" {4,8}\\}") && began > 0) {
                rule(11, number - began <= 60, "a long method from line " + began);
            }
        }
    }

    private static Object[] arguments(Class<?>[] types, int[] chosen) {
        int[] ints = {Integer.MIN_VALUE, -1, 0, 1, 2, 3, 4, 5, 9, 10, 15, 16, 99, 9999, 10000, Integer.MAX_VALUE};
        long[] longs = {Long.MIN_VALUE, -1, 0, 1, 1005, 5009, 7000, 9999, 50006099L, 10000000000000000L,
            9999999999999999L, 1009200930054004L, 5009510952095309L, 3005310152095309L, 2, Long.MAX_VALUE};
        Object[] made = new Object[types.length];
        for (int i = 0; i < types.length; i++) {
            made[i] = types[i] == int.class ? (Object) ints[chosen[i]]
                    : types[i] == long.class ? (Object) longs[chosen[i]] : (Object) (chosen[i] % 2 == 0);
        }
        return made;
    }

    private static void noCallThrows() throws ReflectiveOperationException {
        String[] texts = {"", "Fr5Fr5Fr5Fr5", "Mr99Mw99Ms99Mrws99", "Fr1Fr1Fr1Fr1Mr90Mr90Mr90Mr90",
            "Fr2Fw3Fs1Fs1Mrw53Mws61Ms20Mrws98", "Fs5Ms00", "FrFr", "Mrws99Mrws99Mrws99Mrws99Mrws99"};
        for (String text : texts) {
            SkyTenders x = new SkyTenders();
            for (char letter : text.toCharArray()) {
                x.write(letter);
            }
            x.tender();
            for (int round = 0; round < 2; round++) {
                for (Method method : SkyTenders.class.getDeclaredMethods()) {
                    if (Modifier.isPublic(method.getModifiers()) && !method.getName().equals("wipe")) {
                        everyArgument(x, method);
                    }
                }
            }
        }
    }

    private static void everyArgument(SkyTenders x, Method method) throws ReflectiveOperationException {
        int count = method.getParameterCount();
        for (int code = 0; code < 1 << 4 * count; code++) {
            int[] chosen = new int[count];
            for (int i = 0; i < count; i++) {
                chosen[i] = code >> 4 * i & 15;
            }
            Object[] arguments = arguments(method.getParameterTypes(), chosen);
            try {
                method.invoke(x, arguments);
            } catch (InvocationTargetException thrown) {
                rule(7, false, method.getName() + Arrays.toString(arguments) + " threw " + thrown.getCause());
            }
        }
    }
}
