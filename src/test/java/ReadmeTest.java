import java.lang.reflect.Field;
import java.lang.reflect.Method;
import java.lang.reflect.Modifier;
import java.io.IOException;
import java.nio.file.Files;
import java.nio.file.Path;
import java.util.List;
import java.util.regex.Matcher;
import java.util.regex.Pattern;

/** README.md's example is run as it stands there, and its tables name all calls, constants and tests. */
public final class ReadmeTest {
    private static final Check CHECK = new Check("ReadmeTest");
    private static final Pattern CALL = Pattern.compile("q\\.([a-z]+)\\((.*?)\\);");
    private static final Pattern ANSWER = Pattern.compile("// (-?[0-9]+): .*");

    public static void main(String[] args) throws Exception {
        String readme = Files.readString(Path.of("README.md"));
        example(List.of(readme.split("```java\n")[1].split("```")[0].split("\n")));
        calls(readme);
        constants(readme);
        tests(readme);
        CHECK.end();
    }

    private static void example(List<String> lines) throws Exception {
        QuotedLayers q = new QuotedLayers();
        int answers = 0;
        for (String line : lines) {
            int told = line.indexOf("  // ");
            String comment = told < 0 ? "" : line.substring(told + 2);
            int last = 0;
            Matcher call = CALL.matcher(told < 0 ? line : line.substring(0, told));
            while (call.find()) {
                last = answer(q, call.group(1), call.group(2));
                CHECK.due("a refusal in " + line, last < 0 ? 1 : 0, 0);
            }
            Matcher due = ANSWER.matcher(comment);
            if (due.matches()) {
                answers++;
                CHECK.due(line.substring(0, told).trim(), last, Integer.parseInt(due.group(1)));
            }
        }
        CHECK.due("answers that the example tells", answers, 6);
    }

    private static int answer(QuotedLayers q, String name, String told) throws Exception {
        String[] each = told.isEmpty() ? new String[0] : told.split(", ");
        Class<?>[] types = new Class<?>[each.length];
        Object[] numbers = new Object[each.length];
        for (int i = 0; i < each.length; i++) {
            types[i] = int.class;
            numbers[i] = number(each[i]);
        }
        return (Integer) QuotedLayers.class.getMethod(name, types).invoke(q, numbers);
    }

    /** 'x' and '\x' stand for the code of x. */
    private static int number(String told) {
        return told.startsWith("'") ? told.charAt(told.length() - 2) : Integer.parseInt(told);
    }

    private static void calls(String readme) {
        for (Method m : QuotedLayers.class.getDeclaredMethods()) {
            if (Modifier.isPublic(m.getModifiers())) {
                Matcher row = Pattern.compile("(?m)^\\|.*`" + m.getName() + "\\(([^)]*)\\)`.*\\|.*\\|$").matcher(readme);
                boolean stands = row.find();
                CHECK.due(m.getName() + " in the table", stands ? 1 : 0, 1);
                if (stands) {
                    int named = row.group(1).isEmpty() ? 0 : row.group(1).split(", ").length;
                    CHECK.due(m.getName() + "'s parameters", named, m.getParameterCount());
                }
            }
        }
    }

    private static void constants(String readme) throws Exception {
        for (Field f : QuotedLayers.class.getDeclaredFields()) {
            if (Modifier.isPublic(f.getModifiers())) {
                String named = "`" + f.getName() + "` (" + f.getInt(null);
                CHECK.due(named, readme.contains(named) ? 1 : 0, 1);
            }
        }
    }

    private static void tests(String readme) throws IOException {
        try (var files = Files.list(Path.of("src/test/java"))) {
            for (Path file : files.sorted().toList()) {
                String name = file.getFileName().toString().replace(".java", "");
                if (name.endsWith("Test")) {
                    CHECK.due(name + " in the table", readme.contains("| `" + name + "` |") ? 1 : 0, 1);
                }
            }
        }
    }
}
