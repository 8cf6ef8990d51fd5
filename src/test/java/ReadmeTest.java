import java.io.IOException;
import java.lang.reflect.Method;
import java.lang.reflect.Modifier;
import java.nio.file.Files;
import java.nio.file.Path;
import java.util.ArrayList;
import java.util.HashMap;
import java.util.HashSet;
import java.util.List;
import java.util.Map;
import java.util.Set;
import java.util.regex.Matcher;
import java.util.regex.Pattern;

/**
 * README.md tells the class as it stands: its examples answer what it says, its
 * tables have each call once with all its numbers. The third argument is README.md.
 */
public final class ReadmeTest {
    private static final Pattern CALL = Pattern.compile("^x\\.(\\w+)\\(([^)]*)\\);\\s*// (-?\\d+)\\b.*$");
    private static final Pattern ROW = Pattern.compile("^\\| `(\\w+)\\(([^)]*)\\)` \\|.*$");

    private ReadmeTest() {
    }

    public static void main(String[] args) throws IOException, ReflectiveOperationException {
        List<String> lines = Files.readAllLines(Path.of(args[2]));
        Map<String, Method> calls = new HashMap<>();
        for (Method m : ChipVolts.class.getDeclaredMethods()) {
            if (Modifier.isPublic(m.getModifiers())) {
                calls.put(m.getName(), m);
            }
        }
        examples(lines, calls);
        tables(lines, calls);
        tests(lines, Path.of(args[2]).resolveSibling("src/test/java"));
        Due.end("ReadmeTest");
    }

    private static void examples(List<String> lines, Map<String, Method> calls) throws ReflectiveOperationException {
        ChipVolts x = null;
        int answers = 0;
        boolean inside = false;
        for (String line : lines) {
            if (line.startsWith("```")) {
                inside = line.equals("```java");
            } else if (line.equals("ChipVolts x = new ChipVolts();")) {
                x = new ChipVolts();
            } else if (inside && !line.isEmpty()) {
                Matcher m = CALL.matcher(line);
                boolean isCall = x != null && m.matches() && calls.containsKey(m.group(1));
                Due.due("an example's call with its answer: '" + line + "'", isCall ? 1 : 0, 1);
                if (isCall) {
                    Object got = calls.get(m.group(1)).invoke(x, numbers(m.group(2)));
                    Due.due("the example's " + line, ((Number) got).longValue(), Long.parseLong(m.group(3)));
                    answers++;
                }
            }
        }
        Due.due("examples were found", answers > 20 ? 1 : 0, 1);
    }

    private static Object[] numbers(String told) {
        List<Object> all = new ArrayList<>();
        for (String number : told.isEmpty() ? new String[0] : told.split(", ")) {
            boolean isTruth = number.equals("true") || number.equals("false");
            if (isTruth) {
                all.add(Boolean.valueOf(number));
            } else {
                all.add(Integer.valueOf(number));
            }
        }
        return all.toArray();
    }

    private static void tables(List<String> lines, Map<String, Method> calls) {
        Set<String> told = new HashSet<>();
        for (String line : lines) {
            Matcher m = ROW.matcher(line);
            if (m.matches()) {
                Due.due(m.group(1) + " once", told.add(m.group(1)) ? 1 : 0, 1);
                int many = m.group(2).isEmpty() ? 0 : m.group(2).split(", ").length;
                Method call = calls.get(m.group(1));
                Due.due(m.group(1) + " with all its numbers", many, call == null ? -1 : call.getParameterCount());
            }
        }
        Due.due("each call is told", told.equals(calls.keySet()) ? 1 : 0, 1);
    }

    /** Each test is named, and each test that is named is there. */
    private static void tests(List<String> lines, Path folder) throws IOException {
        Set<String> named = new HashSet<>();
        for (String line : lines) {
            Matcher m = Pattern.compile("`(\\w+Test)`").matcher(line);
            while (m.find()) {
                named.add(m.group(1));
            }
        }
        Set<String> there = new HashSet<>();
        try (var files = Files.newDirectoryStream(folder, "*Test.java")) {
            for (Path file : files) {
                there.add(file.getFileName().toString().replace(".java", ""));
            }
        }
        Due.due("the tests that README.md names are those that are there, " + there, named.equals(there) ? 1 : 0, 1);
    }
}
