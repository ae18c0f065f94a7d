import java.io.IOException;
import java.lang.reflect.InvocationTargetException;
import java.lang.reflect.Method;
import java.lang.reflect.Modifier;
import java.nio.charset.StandardCharsets;
import java.nio.file.Files;
import java.nio.file.Path;
import java.util.List;
import java.util.regex.Matcher;
import java.util.regex.Pattern;
import java.util.stream.Collectors;
import java.util.stream.Stream;

/** README.md: its examples answer what stands behind them, and it names every call and every test. */
public final class ReadmeTest {
    private static final Check CHECK = new Check("ReadmeTest");
    private static final String MADE = "AskingPupil x = new AskingPupil();";
    private static final Pattern CALL = Pattern.compile("x\\.(\\w+)\\((.*?)\\); +// (-?\\w+)(:.*|,.*)?");
    /** As many lines as a program of the README has at most, far below the 512 calls of an object. */
    private static final int MOST_LINES = 100;

    private ReadmeTest() {
    }

    public static void main(String[] args) throws IOException, IllegalAccessException {
        List<String> lines = Files.readAllLines(Path.of("README.md"), StandardCharsets.UTF_8);
        examples(lines);
        callsNamed(lines);
        testsNamed(lines);
        CHECK.end();
    }

    private static void examples(List<String> lines) throws IllegalAccessException {
        CHECK.about("examples");
        AskingPupil x = null;
        boolean inside = false;
        int made = 0;
        int calls = 0;
        for (String line : lines) {
            if (line.startsWith("```")) {
                inside = line.equals("```java");
                x = null;
            } else if (inside && line.equals(MADE)) {
                x = new AskingPupil();
                made++;
                calls = 0;
            } else if (inside) {
                example(x, line);
                CHECK.holds(line + " comes early enough", ++calls < MOST_LINES);
            }
        }
        CHECK.holds("some examples", made > 3);
    }

    private static void example(AskingPupil x, String line) throws IllegalAccessException {
        Matcher call = CALL.matcher(line);
        boolean read = call.matches();
        CHECK.holds(line + " is a call with its answer", read && x != null);
        if (read && x != null) CHECK.due(line, answer(x, call.group(1), call.group(2)), call.group(3));
    }

    private static String answer(AskingPupil x, String name, String told) throws IllegalAccessException {
        for (Method m : AskingPupil.class.getMethods()) {
            if (!m.getName().equals(name)) continue;
            Class<?>[] types = m.getParameterTypes();
            String[] words = told.isEmpty() ? new String[0] : told.split(", ");
            if (types.length != words.length) return "no such call";
            Object[] arguments = new Object[types.length];
            for (int i = 0; i < types.length; i++) {
                long number = Long.decode(words[i]);
                if (types[i] == int.class) arguments[i] = (int) number;
                else arguments[i] = number;
            }
            try {
                return String.valueOf(m.invoke(x, arguments));
            } catch (InvocationTargetException e) {
                return e.getCause().getClass().getSimpleName();
            }
        }
        return "no such call";
    }

    private static void callsNamed(List<String> lines) {
        CHECK.about("calls");
        String text = String.join("\n", lines);
        for (Method m : AskingPupil.class.getDeclaredMethods()) {
            if (Modifier.isPublic(m.getModifiers())) CHECK.holds(m.getName() + " is named", text.contains("`" + m.getName() + "`"));
        }
    }

    private static void testsNamed(List<String> lines) throws IOException {
        CHECK.about("tests");
        String text = String.join("\n", lines);
        List<String> tests;
        try (Stream<Path> files = Files.list(Path.of("src/test/java"))) {
            tests = files.map(p -> p.getFileName().toString()).sorted().collect(Collectors.toList());
        }
        for (String test : tests) {
            CHECK.holds(test + " is named", text.contains("`" + test.replace(".java", "") + "`"));
        }
        Matcher named = Pattern.compile("`(\\w+Test)`").matcher(text);
        while (named.find()) CHECK.holds(named.group(1) + " is there", tests.contains(named.group(1) + ".java"));
        CHECK.holds("how all are run", lines.contains(".ci/run"));
        CHECK.holds("how one is run", lines.stream().anyMatch(s -> s.startsWith("javac ") && s.endsWith("java -cp out PromiseTest")));
    }
}
