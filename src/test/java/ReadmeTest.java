import java.io.IOException;
import java.lang.reflect.InvocationTargetException;
import java.lang.reflect.Method;
import java.lang.reflect.Modifier;
import java.nio.file.Files;
import java.nio.file.Path;
import java.util.List;
import java.util.regex.Matcher;
import java.util.regex.Pattern;
import java.util.stream.Stream;

/** README.md as it stands: its calls answer what stands behind them, and it names every call and every test. */
public final class ReadmeTest {
    private static final Path README = Path.of("README.md");
    private static final Path TESTS = Path.of("src/test/java");
    private static final Pattern CALL = Pattern.compile("q\\.(\\w+)\\(([^)]*)\\); +// (-?\\w+)(:.*)?");
    private static QuotientSums q;

    private ReadmeTest() {
    }

    public static void main(String[] args) throws IOException, IllegalAccessException {
        String text = Files.readString(README);
        int calls = runExamples(text.lines().toList());
        Check.due("the README has examples", calls >= 10, true);
        for (Method method : QuotientSums.class.getDeclaredMethods()) {
            if (Modifier.isPublic(method.getModifiers())) {
                Check.due("the README names " + method.getName(), text.contains("`" + method.getName() + "`"), true);
            }
        }
        try (Stream<Path> files = Files.list(TESTS)) {
            for (Path file : files.toList()) {
                String name = file.getFileName().toString().replace(".java", "");
                boolean named = text.contains(name.endsWith("Test") ? "| " + name + " |" : "`" + name);
                Check.due("the README names " + name, named, true);
            }
        }
        Check.finish("ReadmeTest");
    }

    /** Each block of Java begins with an object of its own; no line in it may be without an answer. */
    private static int runExamples(List<String> lines) throws IllegalAccessException {
        int calls = 0;
        boolean inside = false;
        for (String line : lines) {
            if (line.startsWith("```")) {
                inside = line.equals("```java");
                q = null;
            } else if (inside && line.equals("QuotientSums q = new QuotientSums();")) {
                q = new QuotientSums();
            } else if (inside && !line.startsWith("//")) {
                runCall(line);
                calls++;
            }
        }
        return calls;
    }

    private static void runCall(String line) throws IllegalAccessException {
        Matcher m = CALL.matcher(line);
        if (q == null || !m.matches()) {
            Check.due("the README's line '" + line + "' can be read", false, true);
            return;
        }
        String got = answer(m.group(1), m.group(2).isEmpty() ? new String[0] : m.group(2).split(", "));
        if (!got.equals(m.group(3))) {
            Check.due("the README's line '" + line + "' is " + got + ";", false, true);
        }
    }

    private static String answer(String name, String[] words) throws IllegalAccessException {
        for (Method method : QuotientSums.class.getDeclaredMethods()) {
            if (method.getName().equals(name) && method.getParameterCount() == words.length) {
                try {
                    return String.valueOf(method.invoke(q, arguments(words)));
                } catch (InvocationTargetException e) {
                    return e.getCause().getClass().getSimpleName();
                }
            }
        }
        return "no call";
    }

    private static Object[] arguments(String[] words) {
        Object[] all = new Object[words.length];
        for (int i = 0; i < words.length; i++) {
            boolean isTruth = words[i].equals("true") || words[i].equals("false");
            all[i] = isTruth ? (Object) words[i].equals("true") : (Object) Integer.decode(words[i]);
        }
        return all;
    }
}
