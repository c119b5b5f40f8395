import java.io.IOException;
import java.lang.reflect.InvocationTargetException;
import java.lang.reflect.Method;
import java.lang.reflect.Modifier;
import java.nio.file.Files;
import java.nio.file.Path;
import java.util.Arrays;
import java.util.HashMap;
import java.util.List;
import java.util.Map;
import java.util.TreeSet;
import java.util.regex.Matcher;
import java.util.regex.Pattern;

/** Makes the calls that README.md shows: each must answer what stands behind it. */
public final class ReadmeTest extends Checks {
    private static final Path README = Path.of("README.md");
    private static final String NEW_OBJECT = "TreeHasher tree = new TreeHasher();";
    // A shown call: the name for its answer, if any, the method, the arguments and the answer.
    private static final Pattern CALL =
        Pattern.compile("(?:int (\\w+) = )?tree\\.(\\w+)\\(([^()]*)\\); *// (-?\\d+)(?::.*)?");
    // A row of the table of calls.
    private static final Pattern ROW = Pattern.compile("\\| `(\\w+)\\(([^()]*)\\)` \\|.*");

    private final Map<String, Integer> values = new HashMap<>();
    private final TreeSet<String> shown = new TreeSet<>();
    private TreeHasher tree;

    public static void main(String[] args) throws IOException {
        sentence("what README.md shows of calls and answers is what the class answers");
        List<String> lines = Files.readAllLines(README);
        ReadmeTest test = new ReadmeTest();
        test.makeCalls(lines);
        // Calls in a form that is no longer read must not look like calls that answer well.
        compareNames("the calls", test.shown, publicMethods(false));
        compareNames("the rows of the table", tableRows(lines), publicMethods(true));
        end();
    }

    private void makeCalls(List<String> lines) {
        boolean inJava = false;
        for (String line : lines) {
            if (line.startsWith("```")) {
                inJava = line.equals("```java");
            } else if (inJava && line.equals(NEW_OBJECT)) {
                tree = new TreeHasher();
                values.clear();
            } else if (inJava && !line.isBlank()) {
                makeCall(line);
            }
        }
    }

    private void makeCall(String line) {
        Matcher call = CALL.matcher(line);
        if (!call.matches()) {
            fail("this line is neither a new object nor a call with its answer: " + line);
            return;
        }
        try {
            int got = answer(call.group(2), call.group(3));
            due(line, got, Integer.parseInt(call.group(4)));
            shown.add(call.group(2));
            if (call.group(1) != null) {
                values.put(call.group(1), got);
            }
        } catch (ReflectiveOperationException | RuntimeException e) {
            fail("this call can't be made: " + line + ": " + e);
        }
    }

    private int answer(String name, String list) throws ReflectiveOperationException {
        Object[] arguments = Arrays.stream(split(list)).map(this::value).toArray();
        Class<?>[] types = new Class<?>[arguments.length];
        Arrays.fill(types, int.class);
        try {
            return (Integer) TreeHasher.class.getMethod(name, types).invoke(tree, arguments);
        } catch (InvocationTargetException e) {
            throw new IllegalStateException(e.getCause());
        }
    }

    private int value(String argument) {
        return values.containsKey(argument) ? values.get(argument) : Integer.parseInt(argument);
    }

    private static String[] split(String list) {
        return list.isEmpty() ? new String[0] : list.split(", ");
    }

    /** The names of the public methods, each with its number of parameters if that is asked for. */
    private static TreeSet<String> publicMethods(boolean withParameters) {
        TreeSet<String> names = new TreeSet<>();
        for (Method method : TreeHasher.class.getDeclaredMethods()) {
            if (Modifier.isPublic(method.getModifiers())) {
                names.add(method.getName() + (withParameters ? "/" + method.getParameterCount() : ""));
            }
        }
        return names;
    }

    private static TreeSet<String> tableRows(List<String> lines) {
        TreeSet<String> rows = new TreeSet<>();
        for (String line : lines) {
            Matcher row = ROW.matcher(line);
            if (row.matches()) {
                rows.add(row.group(1) + "/" + split(row.group(2)).length);
            }
        }
        return rows;
    }

    private static void compareNames(String what, TreeSet<String> got, TreeSet<String> want) {
        if (!got.equals(want)) {
            fail(what + " are of " + got + ", due is " + want);
        }
    }
}
