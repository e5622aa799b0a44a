import java.io.IOException;
import java.lang.reflect.InvocationTargetException;
import java.lang.reflect.Method;
import java.nio.file.Files;
import java.nio.file.Path;
import java.util.List;
import java.util.Set;
import java.util.TreeSet;
import java.util.regex.Matcher;
import java.util.regex.Pattern;

/** README.md tells the truth: its calls answer what stands beside them, and it lists every call of the face. */
public final class ReadmeTest {
    private static final Pattern SHOWN = Pattern.compile("people\\.(\\w+)\\(([^)]*)\\); +// (-?\\d+|throws \\w+)(:.*)?");
    private static final Pattern LISTED = Pattern.compile("\\| `(\\w+)\\(([^)]*)\\)` \\|.*");

    public static void main(String[] args) throws IOException, ReflectiveOperationException {
        Check check = new Check();
        List<String> lines = Files.readAllLines(Path.of("README.md"));
        runShown(check, lines);
        check.dueText("the list of calls", listed(lines).toString(), face().toString());
        check.end();
    }

    private static void runShown(Check check, List<String> lines) throws ReflectiveOperationException {
        LabelPeople people = new LabelPeople();
        int count = 0;
        for (String line : lines) {
            Matcher shown = SHOWN.matcher(line);
            if (shown.matches()) {
                count++;
                check.dueText(line, answer(people, shown.group(1), shown.group(2).split(", ")), shown.group(3));
            } else if (line.startsWith("people.")) {
                check.fail("no answer stands beside " + line);
            }
        }
        if (count == 0) {
            check.fail("no call is shown");
        }
    }

    private static String answer(LabelPeople people, String name, String[] written) throws ReflectiveOperationException {
        Method method = named(name);
        Object[] arguments = new Object[written.length];
        for (int k = 0; k < written.length; k++) {
            boolean truth = method.getParameterTypes()[k] == boolean.class;
            arguments[k] = truth ? (Object) Boolean.valueOf(written[k]) : Integer.valueOf(written[k]);
        }
        try {
            return method.invoke(people, arguments).toString();
        } catch (InvocationTargetException e) {
            return "throws " + e.getCause().getClass().getSimpleName();
        }
    }

    private static Method named(String name) throws NoSuchMethodException {
        for (Method method : LabelPeople.class.getMethods()) {
            if (method.getName().equals(name)) {
                return method;
            }
        }
        throw new NoSuchMethodException(name);
    }

    /** Each call's name with the number of its parameters. */
    private static Set<String> listed(List<String> lines) {
        Set<String> calls = new TreeSet<>();
        for (String line : lines) {
            Matcher call = LISTED.matcher(line);
            if (call.matches()) {
                calls.add(call.group(1) + " " + call.group(2).split(", ").length);
            }
        }
        return calls;
    }

    private static Set<String> face() {
        Set<String> calls = new TreeSet<>();
        for (Method method : LabelPeople.class.getMethods()) {
            if (method.getDeclaringClass() == LabelPeople.class) {
                calls.add(method.getName() + " " + method.getParameterCount());
            }
        }
        return calls;
    }
}
