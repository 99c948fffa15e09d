import java.io.IOException;
import java.lang.reflect.Method;
import java.nio.file.DirectoryStream;
import java.nio.file.Files;
import java.nio.file.Path;
import java.util.regex.Matcher;
import java.util.regex.Pattern;

/** That README.md tells no wrong answer and leaves no call and no test out; run from the project's folder. */
public final class ReadmeTest {
    private static final Due DUE = new Due("ReadmeTest");
    private static final Pattern SHOWN = Pattern.compile("(?m)^x\\.(\\w+)\\(([^)]*)\\); +// (-?\\d+)\\b");

    public static void main(String[] args) throws Exception {
        String readme = Files.readString(Path.of("README.md"));
        shownAnswers(readme);
        callsNamed(readme);
        testsNamed(readme);
        DUE.end();
    }

    /** The example's calls, made one behind another on one object. */
    private static void shownAnswers(String readme) throws Exception {
        ThreeVoices x = new ThreeVoices();
        Matcher m = SHOWN.matcher(readme);
        int shown = 0;
        while (m.find()) {
            shown++;
            DUE.is(m.group(), answer(x, m.group(1), m.group(2)), Long.parseLong(m.group(3)));
        }
        DUE.is("lines of the example without an answer", readme.split("\nx\\.").length - 1 - shown, 0);
        DUE.is("calls of the example, at least ten", Math.min(shown, 10), 10);
    }

    private static long answer(ThreeVoices x, String name, String with) throws Exception {
        String[] numbers = with.isEmpty() ? new String[0] : with.split(", ");
        Method call = call(name);
        Object[] given = new Object[numbers.length];
        for (int i = 0; i < numbers.length; i++) {
            long n = Long.decode(numbers[i].replace("L", ""));
            given[i] = call.getParameterTypes()[i] == long.class ? (Object) n : (Object) (int) n;
        }
        return ((Number) call.invoke(x, given)).longValue();
    }

    private static Method call(String name) {
        for (Method m : ThreeVoices.class.getDeclaredMethods()) {
            if (m.getName().equals(name)) {
                return m;
            }
        }
        throw new IllegalStateException("README.md shows a call that there is not: " + name);
    }

    /** Each call has a row, with as many numbers as it takes. */
    private static void callsNamed(String readme) {
        int calls = 0;
        for (Method m : ThreeVoices.class.getDeclaredMethods()) {
            if (java.lang.reflect.Modifier.isPublic(m.getModifiers())) {
                calls++;
                String numbers = m.getParameterCount() == 0 ? "" : "\\w+" + ", \\w+".repeat(m.getParameterCount() - 1);
                Matcher row = Pattern.compile("(?m)^\\| `" + m.getName() + "\\(" + numbers + "\\)` \\|").matcher(readme);
                DUE.is("a row for " + m.getName(), row.find() ? 1 : 0, 1);
            }
        }
        DUE.is("calls", calls, 25);
    }

    private static void testsNamed(String readme) throws IOException {
        try (DirectoryStream<Path> tests = Files.newDirectoryStream(Path.of("src/test/java"), "*Test.java")) {
            for (Path test : tests) {
                String name = test.getFileName().toString().replace(".java", "");
                DUE.is("a row for " + name, readme.contains("\n| " + name + " |") ? 1 : 0, 1);
            }
        }
    }
}
