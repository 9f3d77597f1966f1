import java.io.IOException;
import java.lang.reflect.Method;
import java.lang.reflect.Modifier;
import java.nio.file.Files;
import java.nio.file.Path;
import java.util.HashMap;
import java.util.Map;
import java.util.regex.Matcher;
import java.util.regex.Pattern;

/** That README.md tells the truth: its example's answers, each call in its table, each test in its list. */
public final class ReadmeTest {
    private static final Pattern CALL = Pattern.compile("(?m)^road\\.(\\w+)\\((.*?)\\);\\s*// (\\w+)");

    private final Checks checks = new Checks();
    private final Map<String, Method> calls = new HashMap<>();

    public static void main(String[] args) throws IOException, ReflectiveOperationException {
        String readme = Files.readString(Path.of("README.md"));
        ReadmeTest t = new ReadmeTest();
        for (Method call : RoadOfDoors.class.getDeclaredMethods()) {
            if (Modifier.isPublic(call.getModifiers())) {
                t.calls.put(call.getName(), call);
                t.checks.due("the table has " + call.getName(), readme.matches("(?s).*\\|[^|\n]*`" + call.getName() + "`.*"), true);
            }
        }
        t.example(readme);
        t.tests(readme);
        t.checks.end();
    }

    private void example(String readme) throws ReflectiveOperationException {
        int from = readme.indexOf("```java");
        String code = readme.substring(from, readme.indexOf("```\n", from));
        checks.due("a road of one door", code.contains("RoadOfDoors road = new RoadOfDoors(1);"), true);
        RoadOfDoors road = new RoadOfDoors(1);
        Matcher line = CALL.matcher(code);
        int lines = 0;
        while (line.find()) {
            lines++;
            String[] told = line.group(2).isEmpty() ? new String[0] : line.group(2).split(", ");
            Object[] with = new Object[told.length];
            for (int i = 0; i < told.length; i++) {
                with[i] = value(told[i]);
            }
            Object got = calls.get(line.group(1)).invoke(road, with);
            checks.due(line.group() + ", but " + got, got.toString().equals(line.group(3)), true);
        }
        checks.due("each line of the example tells its answer", lines, code.split("\nroad\\.", -1).length - 1);
    }

    private static Object value(String told) {
        if (told.equals("true") || told.equals("false")) {
            return told.equals("true");
        }
        return told.equals("RoadOfDoors.NONE") ? RoadOfDoors.NONE : Integer.decode(told);
    }

    private void tests(String readme) throws IOException {
        try (var files = Files.list(Path.of("src/test/java"))) {
            for (Path file : files.toList()) {
                String name = file.getFileName().toString().replace(".java", "");
                checks.due("README.md tells of " + name, readme.contains("`" + name), true);
            }
        }
    }
}
