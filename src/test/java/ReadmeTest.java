import java.io.IOException;
import java.lang.reflect.InvocationTargetException;
import java.lang.reflect.Method;
import java.lang.reflect.Modifier;
import java.nio.file.Files;
import java.nio.file.Path;
import java.util.HashMap;
import java.util.Map;
import java.util.Set;
import java.util.TreeSet;
import java.util.regex.Matcher;
import java.util.regex.Pattern;

/** The class answers what the examples in README.md say; a line that says no answer is a failure, too. */
public final class ReadmeTest {
    private static final String NEW_OBJECT = "CopyReplace x = new CopyReplace();";
    private static final Pattern CALL = Pattern.compile(
            "(?:int (\\w+) = )?x\\.(\\w+)\\(([^()]*)\\); +// (throws \\w+|-?\\d+)(?:: .+)?");

    private final Checks c;
    private final Set<String> called;
    private final Map<String, Integer> variables = new HashMap<>();
    private CopyReplace x;
    private int calls = 0;

    private ReadmeTest(Checks c, Set<String> called) {
        this.c = c;
        this.called = called;
    }

    public static void main(String[] args) throws IOException {
        Checks c = new Checks();
        Set<String> called = new TreeSet<>();
        ReadmeTest example = null;
        int number = 0;
        for (String line : Files.readAllLines(Path.of("README.md"))) {
            number++;
            if (line.startsWith("```")) {
                example = line.equals("```java") ? new ReadmeTest(c, called) : null;
            } else if (example != null) {
                c.about("README.md, line " + number);
                example.line(line);
            }
        }
        c.about("the examples");
        c.due("methods that they call", called.toString(), face().toString());
        System.out.println("examples of " + called.size() + " methods");
        c.end();
    }

    private static Set<String> face() {
        Set<String> names = new TreeSet<>();
        for (Method m : CopyReplace.class.getDeclaredMethods()) {
            if (Modifier.isPublic(m.getModifiers())) {
                names.add(m.getName());
            }
        }
        return names;
    }

    private void line(String line) {
        if (line.equals(NEW_OBJECT)) {
            x = new CopyReplace();
            return;
        }
        Matcher parts = CALL.matcher(line);
        boolean isCall = x != null && parts.matches();
        c.due("'" + line + "' is a call of x with its answer", isCall, true);
        if (!isCall) {
            return;
        }
        calls++;
        c.due("the object is called at most 512 times", calls <= 512, true);
        String answer = answer(parts.group(2), parts.group(3));
        c.due(parts.group(2) + "(" + parts.group(3) + ")", answer, parts.group(4));
        if (parts.group(1) != null && answer.matches("-?\\d+")) {
            c.due("the variable " + parts.group(1) + " is new", variables.containsKey(parts.group(1)), false);
            variables.put(parts.group(1), Integer.valueOf(answer));
        }
    }

    private String answer(String name, String arguments) {
        Object[] values = values(arguments);
        for (Method m : CopyReplace.class.getDeclaredMethods()) {
            if (Modifier.isPublic(m.getModifiers()) && m.getName().equals(name)) {
                called.add(name);
                return answer(m, values);
            }
        }
        return "no such method";
    }

    private String answer(Method m, Object[] values) {
        try {
            return m.invoke(x, values).toString();
        } catch (InvocationTargetException e) {
            return "throws " + e.getCause().getClass().getSimpleName();
        } catch (IllegalAccessException | IllegalArgumentException e) {
            return "a call that does not compile";
        }
    }

    /** A name that is no variable becomes null, with which no method can be called. */
    private Object[] values(String arguments) {
        if (arguments.isEmpty()) {
            return new Object[0];
        }
        String[] told = arguments.split(", ");
        Object[] values = new Object[told.length];
        for (int k = 0; k < told.length; k++) {
            if (told[k].equals("true") || told[k].equals("false")) {
                values[k] = Boolean.valueOf(told[k]);
            } else {
                values[k] = told[k].matches("-?\\d+") ? Integer.valueOf(told[k]) : variables.get(told[k]);
            }
        }
        return values;
    }
}
