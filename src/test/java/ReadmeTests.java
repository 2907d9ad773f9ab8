import java.io.IOException;
import java.lang.reflect.InvocationTargetException;
import java.lang.reflect.Method;
import java.lang.reflect.Modifier;
import java.nio.file.Files;
import java.nio.file.Path;
import java.util.ArrayList;
import java.util.List;
import java.util.Map;
import java.util.TreeMap;
import java.util.regex.Matcher;
import java.util.regex.Pattern;

/** README.md tells what is so: its example answers as it says, its tables have the document's calls. */
public final class ReadmeTests {
    /** An example's call with the answer that stands behind it. */
    private static final Pattern CALL = Pattern.compile("x\\.(\\w+)\\(([-\\d, ]*)\\); +// (-?\\d+).*");
    private static final Pattern SIGNS = Pattern.compile("String signs = \"([^\"]*)\";");
    /** A table's row: the call, what it does, and why it is refused. */
    private static final Pattern TABLE_ROW = Pattern.compile("\\| `(\\w+)\\(([\\w, ]*)\\)` \\| (.*) \\| ?(.*)\\|");

    private static int passed = 0;
    private static int failed = 0;

    private static void due(String what, Object got, Object want) {
        if (got.equals(want)) {
            passed++;
        } else {
            failed++;
            System.out.println(what + " is " + got + ", due is " + want);
        }
    }

    public static void main(String[] args) throws IOException, ReflectiveOperationException {
        List<String> lines = Files.readAllLines(Path.of("README.md"));
        example(lines);
        tables(lines);
        System.out.println(passed + " passed, " + failed + " failed");
        if (failed != 0) {
            System.exit(1);
        }
    }

    private static SnowTracks written(String signs) {
        SnowTracks x = new SnowTracks();
        x.text(0, signs.length());
        for (int i = 0; i < signs.length(); i++) {
            x.put(0, i, signs.charAt(i));
        }
        return x;
    }

    private static void example(List<String> lines) throws ReflectiveOperationException {
        SnowTracks x = null;
        int calls = 0;
        for (String line : lines) {
            Matcher signs = SIGNS.matcher(line);
            if (signs.matches()) {
                x = written(signs.group(1));
            }
            Matcher call = CALL.matcher(line);
            if (x != null && call.matches()) {
                due("README's " + line, answer(x, call.group(1), call.group(2)), Long.valueOf(call.group(3)));
                calls++;
            }
        }
        due("that README has an example of calls", calls > 10, true);
    }

    private static Long answer(SnowTracks x, String name, String numbers) throws ReflectiveOperationException {
        String[] parts = numbers.isBlank() ? new String[0] : numbers.split(", *");
        Object[] given = new Object[parts.length];
        Class<?>[] types = new Class<?>[parts.length];
        for (int i = 0; i < parts.length; i++) {
            given[i] = Integer.valueOf(parts[i]);
            types[i] = int.class;
        }
        return ((Number) SnowTracks.class.getMethod(name, types).invoke(x, given)).longValue();
    }

    private static void tables(List<String> lines) throws InvocationTargetException, IllegalAccessException {
        Map<String, Integer> parameters = new TreeMap<>();
        Map<String, String> refusals = new TreeMap<>();
        for (String line : lines) {
            Matcher row = TABLE_ROW.matcher(line);
            if (row.matches()) {
                due(row.group(1) + "() stands in one table row alone", parameters.containsKey(row.group(1)), false);
                parameters.put(row.group(1), row.group(2).isBlank() ? 0 : row.group(2).split(",").length);
                refusals.put(row.group(1), row.group(3 + 1));
            }
        }
        Map<String, Integer> face = new TreeMap<>();
        for (Method m : SnowTracks.class.getDeclaredMethods()) {
            if (Modifier.isPublic(m.getModifiers())) {
                face.put(m.getName(), m.getParameterCount());
                badIsTold(m, refusals.getOrDefault(m.getName(), ""));
            }
        }
        due("README's tables of calls", parameters, face);
    }

    /** A number far off is BAD wherever a call takes one first, and the tables say so. */
    private static void badIsTold(Method m, String refusal) throws InvocationTargetException, IllegalAccessException {
        List<Object> given = new ArrayList<>();
        for (int i = 0; i < m.getParameterCount(); i++) {
            given.add(Integer.MIN_VALUE);
        }
        boolean bad = ((Number) m.invoke(new SnowTracks(), given.toArray())).longValue() == SnowTracks.BAD;
        due("whether README says BAD of " + m.getName() + "()", refusal.startsWith("BAD"), bad);
    }
}
