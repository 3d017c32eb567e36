import java.io.IOException;
import java.lang.reflect.Method;
import java.nio.file.DirectoryStream;
import java.nio.file.Files;
import java.nio.file.Path;
import java.util.regex.Matcher;
import java.util.regex.Pattern;

/** README.md says the truth: its example answers as it says, and no call and no test is left out. */
public final class ReadmeTest {
    // graph.link(0, 1);   // 2: why
    private static final Pattern CALL = Pattern.compile("(?m)^graph\\.(\\w+)\\(([^)]*)\\);\\s*// ([\\w.-]+)");

    private static int wrong = 0;

    public static void main(String[] args) throws IOException, ReflectiveOperationException {
        String readme = Files.readString(Path.of("README.md"));
        dueOfExample(readme);
        dueOfCalls(readme);
        dueOfTests(readme);
        if (wrong != 0) {
            System.exit(1);
        }
        System.out.println("README.md is as due");
    }

    private static void dueOfExample(String readme) throws ReflectiveOperationException {
        LevelForests graph = new LevelForests();
        Matcher calls = CALL.matcher(readme);
        while (calls.find()) {
            String want = calls.group(3).equals("LevelForests.BAD") ? "-1" : calls.group(3);
            String got = String.valueOf(call(graph, calls.group(1), calls.group(2)));
            due(calls.group() + " answered " + got, got.equals(want));
        }
    }

    private static Object call(LevelForests graph, String name, String numbers) throws ReflectiveOperationException {
        String[] parts = numbers.isEmpty() ? new String[0] : numbers.split(", ");
        Object[] arguments = new Object[parts.length];
        Class<?>[] types = new Class<?>[parts.length];
        for (int i = 0; i < parts.length; i++) {
            arguments[i] = Integer.valueOf(parts[i]);
            types[i] = int.class;
        }
        return LevelForests.class.getMethod(name, types).invoke(graph, arguments);
    }

    private static void dueOfCalls(String readme) {
        for (Method method : LevelForests.class.getMethods()) {
            if (method.getDeclaringClass() == LevelForests.class) {
                String name = method.getName();
                due("the example has no " + name, readme.contains("\ngraph." + name + "("));
                due("the table has no " + name, readme.contains("\n| `" + name + "("));
            }
        }
    }

    private static void dueOfTests(String readme) throws IOException {
        try (DirectoryStream<Path> tests = Files.newDirectoryStream(Path.of("src/test/java"))) {
            for (Path test : tests) {
                due("the list of tests has no " + test, readme.contains("- `" + test + "`"));
            }
        }
    }

    private static void due(String what, boolean good) {
        if (!good) {
            wrong++;
            System.out.println(what);
        }
    }
}
