import java.lang.reflect.Method;
import java.lang.reflect.Modifier;
import java.nio.file.Files;
import java.nio.file.Path;
import java.util.ArrayList;
import java.util.HashMap;
import java.util.List;
import java.util.Map;
import java.util.Set;
import java.util.TreeSet;
import java.util.regex.Matcher;
import java.util.regex.Pattern;

// Makes every call that README.md shows and compares the answer behind it; the codes and the calls of its tables too.
public final class ReadmeTest {
    private static final Pattern MADE = Pattern.compile("IntegerGrids (\\w+) = new IntegerGrids\\(\\);");
    private static final Pattern CALL = Pattern.compile("(\\w+)\\.(\\w+)\\(([-0-9, ]*)\\);\\s+// (-?\\w+)");
    private static final Pattern CODE_ROW = Pattern.compile("\\| `IntegerGrids\\.(\\w+)` \\| (-?\\d+) \\| .*\\|");
    private static final Pattern CALL_ROW = Pattern.compile("\\| `(\\w+) (\\w+)\\(([\\w, ]*)\\)` \\| .*\\|");
    private static final Set<String> CODES = Set.of("BAD_ARG", "FULL", "NONE");

    private static int wrong = 0;

    private static void due(String what, boolean holds) {
        if (!holds) {
            wrong++;
            System.out.println("does not hold: " + what);
        }
    }

    private static List<Method> face() {
        List<Method> methods = new ArrayList<>();
        for (Method m : IntegerGrids.class.getDeclaredMethods()) {
            if (Modifier.isPublic(m.getModifiers())) {
                methods.add(m);
            }
        }
        return methods;
    }

    private static Method named(String name) {
        for (Method m : face()) {
            if (m.getName().equals(name)) {
                return m;
            }
        }
        return null;
    }

    private static String valueOf(String answer) throws Exception {
        return CODES.contains(answer) ? String.valueOf(IntegerGrids.class.getField(answer).getInt(null)) : answer;
    }

    private static Object[] arguments(String text) {
        if (text.isBlank()) {
            return new Object[0];
        }
        String[] parts = text.split(", ");
        Object[] numbers = new Object[parts.length];
        for (int i = 0; i < parts.length; i++) {
            numbers[i] = Integer.valueOf(parts[i]);
        }
        return numbers;
    }

    // An answer in a line that is not understood would be one that no test checks.
    private static void checkLine(String line, Map<String, IntegerGrids> objects, Set<String> shown) throws Exception {
        Matcher made = MADE.matcher(line);
        if (made.matches()) {
            objects.put(made.group(1), new IntegerGrids());
            return;
        }
        Matcher call = CALL.matcher(line);
        if (!call.matches()) {
            due("a line of code in README.md is a call with its answer: " + line, false);
            return;
        }
        IntegerGrids object = objects.get(call.group(1));
        Method method = named(call.group(2));
        Object[] arguments = arguments(call.group(3));
        if (object == null || method == null || method.getParameterCount() != arguments.length) {
            due("README.md calls what there is: " + line, false);
            return;
        }
        String got = String.valueOf(method.invoke(object, arguments));
        due(line + " answered " + got, got.equals(valueOf(call.group(4))));
        shown.add(call.group(2));
        shown.add(call.group(4));
    }

    private static void calls(List<String> lines) throws Exception {
        Map<String, IntegerGrids> objects = new HashMap<>();
        Set<String> shown = new TreeSet<>();
        boolean code = false;
        for (String line : lines) {
            if (line.startsWith("```")) {
                code = line.equals("```java");
            } else if (code) {
                checkLine(line, objects, shown);
            }
        }
        for (Method m : face()) {
            due("README.md shows a call of " + m.getName(), shown.contains(m.getName()));
        }
        for (String name : CODES) {
            due("README.md shows a call that answers " + name, shown.contains(name));
        }
    }

    private static void codes(List<String> lines) throws Exception {
        Set<String> seen = new TreeSet<>();
        for (String line : lines) {
            Matcher row = CODE_ROW.matcher(line);
            if (row.matches() && seen.add(row.group(1))) {
                due(line, row.group(2).equals(valueOf(row.group(1))));
            }
        }
        due("README.md names the codes: " + seen, seen.equals(CODES));
    }

    private static String typesAlone(String parameters) {
        return parameters.replaceAll("(\\w+) \\w+", "$1");
    }

    private static String signature(Method m) {
        List<String> types = new ArrayList<>();
        for (Class<?> type : m.getParameterTypes()) {
            types.add(type.getName());
        }
        return m.getReturnType() + " " + m.getName() + "(" + String.join(", ", types) + ")";
    }

    private static void tableOfCalls(List<String> lines) {
        Set<String> seen = new TreeSet<>();
        for (String line : lines) {
            Matcher row = CALL_ROW.matcher(line);
            if (row.matches() && !row.group(1).equals("new")) {
                seen.add(row.group(1) + " " + row.group(2) + "(" + typesAlone(row.group(3)) + ")");
            }
        }
        Set<String> due = new TreeSet<>();
        for (Method m : face()) {
            due.add(signature(m));
        }
        due("README.md's table has the methods of the class, not " + seen, seen.equals(due));
    }

    private static void words(String text) {
        due("README.md tells the limit of calls", text.contains("at most 512 calls"));
        due("README.md tells how the tests are run", text.contains("```sh\n.ci/run\n```"));
        for (java.io.File test : new java.io.File("src/test/java").listFiles()) {
            String name = test.getName().replace(".java", "");
            due("README.md names the test " + name, text.contains("- `" + name + "`: "));
        }
    }

    public static void main(String[] args) throws Exception {
        String text = Files.readString(Path.of("README.md"));
        List<String> lines = text.lines().toList();
        calls(lines);
        codes(lines);
        tableOfCalls(lines);
        words(text);
        if (wrong != 0) {
            System.exit(1);
        }
    }
}
