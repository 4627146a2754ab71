import java.io.IOException;
import java.lang.reflect.InvocationTargetException;
import java.lang.reflect.Method;
import java.lang.reflect.Modifier;
import java.nio.file.DirectoryStream;
import java.nio.file.Files;
import java.nio.file.Path;
import java.util.regex.Matcher;
import java.util.regex.Pattern;

/** What README.md says is so: its calls answer what stands behind them, and it names each method and each test. */
final class ReadmeTest {
    private static final Pattern CALL = Pattern.compile("bench\\.(\\w+)\\(([^)]*)\\); +// (\\S+)");

    public static void main(String[] args) throws IOException, IllegalAccessException {
        String page = Files.readString(Path.of("README.md"));
        calls(page.substring(page.indexOf("```java"), page.lastIndexOf("```")));
        namesEachMethod(page);
        namesEachTest(page);
        Check.finish("ReadmeTest");
    }

    private static void calls(String example) throws IllegalAccessException {
        HomBench bench = new HomBench();
        int made = 0;
        for (String line : example.split("\n")) {
            Matcher call = CALL.matcher(line);
            boolean read = call.matches();
            Check.due(line + " is a call with its answer", line.startsWith("bench."), read);
            if (read) {
                made++;
                Check.due(line, call.group(3), answer(bench, call.group(1), call.group(2)));
            }
        }
        Check.due("the page has calls", true, made > 0);
    }

    private static String answer(HomBench bench, String name, String arguments) throws IllegalAccessException {
        String[] written = arguments.isEmpty() ? new String[0] : arguments.split(", ");
        try {
            return String.valueOf(methodOf(name).invoke(bench, values(written)));
        } catch (InvocationTargetException e) {
            return e.getCause().getClass().getSimpleName();
        }
    }

    private static Method methodOf(String name) {
        for (Method method : HomBench.class.getDeclaredMethods()) {
            if (Modifier.isPublic(method.getModifiers()) && method.getName().equals(name)) {
                return method;
            }
        }
        throw new IllegalArgumentException("README.md calls " + name);
    }

    private static Object[] values(String[] written) {
        Object[] values = new Object[written.length];
        for (int i = 0; i < written.length; i++) {
            boolean number = written[i].matches("-?\\d+");
            values[i] = number ? (Object) Integer.valueOf(written[i]) : (Object) Boolean.valueOf(written[i]);
        }
        return values;
    }

    private static void namesEachMethod(String page) {
        for (Method method : HomBench.class.getDeclaredMethods()) {
            if (Modifier.isPublic(method.getModifiers())) {
                String name = "`" + method.getName() + "`";
                Check.due(name + " is named", true, page.substring(page.indexOf("| About")).contains(name));
            }
        }
    }

    private static void namesEachTest(String page) throws IOException {
        try (DirectoryStream<Path> tests = Files.newDirectoryStream(Path.of("src/test/java"), "*Test.java")) {
            for (Path test : tests) {
                String name = test.getFileName().toString().replace(".java", "");
                Check.due(name + " is named", true, page.contains("`" + name + "`"));
            }
        }
    }
}
