import java.io.IOException;
import java.lang.reflect.Method;
import java.lang.reflect.Modifier;
import java.nio.file.DirectoryStream;
import java.nio.file.Files;
import java.nio.file.Path;
import java.util.Map;
import java.util.TreeMap;
import java.util.regex.Matcher;
import java.util.regex.Pattern;

/** README.md: its examples answer what stands behind them, and it tells all of the face and all tests. */
public final class ReadmeTest {
    private static final Pattern EXAMPLE = Pattern.compile("(?s)```java\n(.*?)```");
    private static final Pattern CALL = Pattern.compile("x\\.(\\w+)\\((.*?)\\);\\s*// (-?\\d+|[A-Z]+)(:.*)?");
    private static final String MADE = "TwoLevels x = new TwoLevels();";
    /** By the document's promises, in the order of its refusals. */
    private static final String[] REFUSALS = {
        "open BAD", "alloc BAD SPOILT NONE", "aligned BAD SPOILT NONE", "free BAD SPOILT", "resize BAD SPOILT NONE",
        "grow BAD SPOILT FULL", "size BAD SPOILT", "put BAD SPOILT", "word", "spoil BAD", "check", "where",
        "classOf BAD", "listed BAD SPOILT NONE", "bits BAD", "block BAD SPOILT NONE", "found BAD SPOILT NONE",
        "count BAD SPOILT"};

    private static final Map<String, Method> FACE = new TreeMap<>();

    private static void readFace() {
        for (Method m : TwoLevels.class.getDeclaredMethods()) {
            if (Modifier.isPublic(m.getModifiers())) {
                FACE.put(m.getName(), m);
            }
        }
    }

    private static long constant(String name) throws ReflectiveOperationException {
        return TwoLevels.class.getField(name).getInt(null);
    }

    private static Object argument(Class<?> type, String text) {
        if (type == boolean.class) {
            return Boolean.valueOf(text);
        }
        return type == long.class ? (Object) Long.valueOf(text.replace("L", "")) : Integer.valueOf(text);
    }

    private static long answer(TwoLevels x, String name, String given) throws ReflectiveOperationException {
        Method m = FACE.get(name);
        Class<?>[] types = m.getParameterTypes();
        String[] texts = given.isEmpty() ? new String[0] : given.split(", ");
        Object[] arguments = new Object[types.length];
        for (int i = 0; i < types.length; i++) {
            arguments[i] = argument(types[i], texts[i]);
        }
        return ((Number) m.invoke(x, arguments)).longValue();
    }

    private static void run(String example) throws ReflectiveOperationException {
        TwoLevels x = new TwoLevels();
        for (String line : example.split("\n")) {
            Matcher call = CALL.matcher(line);
            if (call.matches()) {
                String told = call.group(3);
                long due = told.matches("[A-Z]+") ? constant(told) : Long.parseLong(told);
                Report.due(line, answer(x, call.group(1), call.group(2)), due);
            } else if (!line.equals(MADE)) {
                Report.fault("a line that can't be tried: " + line);
            }
        }
    }

    private static void examples(String readme) throws ReflectiveOperationException {
        Report.says("README.md says how to use the class");
        int count = 0;
        for (Matcher m = EXAMPLE.matcher(readme); m.find(); ) {
            run(m.group(1));
            count++;
        }
        Report.due("two examples or more", Math.min(count, 2), 2);
    }

    /** A row of the table: the call with its types and names, what it answers, its refusals. */
    private static Pattern rowOf(Method m) {
        StringBuilder call = new StringBuilder(m.getReturnType() + " " + m.getName() + "\\(");
        Class<?>[] types = m.getParameterTypes();
        for (int i = 0; i < types.length; i++) {
            call.append(i > 0 ? ", " : "").append(types[i]).append(" \\w+");
        }
        return Pattern.compile("(?m)^\\| `" + call + "\\)` \\| ([^|]{20,}) \\|([^|]*)\\|$");
    }

    private static void face(String readme) {
        Report.says("its face, what each call answers, its refusals");
        Report.due("calls of the face", REFUSALS.length, FACE.size());
        for (String line : REFUSALS) {
            String[] words = line.split(" ", 2);
            String due = words.length > 1 ? words[1] : "";
            Matcher row = rowOf(FACE.get(words[0])).matcher(readme);
            boolean told = row.find() && row.group(2).replaceAll("[^A-Z]+", " ").trim().equals(due);
            Report.due("the row of " + words[0] + ", refused with (" + due + "), is there", told ? 1 : 0, 1);
        }
    }

    private static void constants(String readme) throws ReflectiveOperationException {
        Report.says("Refused, and nothing changes");
        int last = 0;
        for (String name : new String[] {"BAD", "SPOILT", "NONE", "FULL"}) {
            int at = readme.indexOf("\n| `" + name + "` | " + constant(name) + " |");
            Report.due(name + " is told behind the one ahead of it", at > last ? 1 : 0, 1);
            last = at;
        }
    }

    private static void numbered(String readme) {
        Report.says("0, or what is wrong first");
        for (int kind = 1; kind <= 6; kind++) {
            Report.due("check() = " + kind, readme.contains("\n| " + kind + " | ") ? 1 : 0, 1);
        }
        Report.says("count(what)");
        for (String what : new String[] {"0", "1", "2", "3", "4, 5", "6, 7", "8"}) {
            Report.due("count " + what, readme.contains("\n| " + what + " | ") ? 1 : 0, 1);
        }
    }

    private static void tests(Path root, String readme) throws IOException {
        Report.says("how to run its tests");
        Report.due(".ci/run", readme.contains("```sh\n.ci/run\n```") ? 1 : 0, 1);
        try (DirectoryStream<Path> files = Files.newDirectoryStream(root.resolve("src/test/java"), "*.java")) {
            for (Path file : files) {
                String name = file.getFileName().toString().replace(".java", "");
                Report.due(name, readme.contains("- `" + name + "`: ") ? 1 : 0, 1);
            }
        }
    }

    public static void main(String[] args) throws IOException, ReflectiveOperationException {
        Path root = Path.of(args.length > 0 ? args[0] : ".");
        String readme = Files.readString(root.resolve("README.md"));
        readFace();
        examples(readme);
        face(readme);
        constants(readme);
        numbered(readme);
        tests(root, readme);
        Report.end();
    }
}
