import java.io.IOException;
import java.lang.reflect.Method;
import java.nio.file.Files;
import java.nio.file.Path;
import java.util.Set;
import java.util.TreeSet;
import java.util.regex.Matcher;
import java.util.regex.Pattern;

/** README.md tells the truth: each call of its example answers what stands behind it, and each call is named. */
public final class ReadmeTests {
    private static final Pattern CALL = Pattern.compile("x\\.(\\w+)\\(([^)]*)\\);\\s*// (-?\\d+|true|false)\\b.*");

    private static int wrong = 0;

    public static void main(String[] args) throws IOException, ReflectiveOperationException {
        String readme = Files.readString(Path.of("README.md"));
        int calls = play(readme);
        names(readme);
        check(calls >= 30, "only " + calls + " calls were found");
        System.out.println(wrong == 0 ? calls + " calls answer as README.md says" : wrong + " faults");
        if (wrong != 0) {
            System.exit(1);
        }
    }

    private static void check(boolean holds, String what) {
        if (!holds) {
            wrong++;
            System.out.println(what);
        }
    }

    private static int play(String readme) throws ReflectiveOperationException {
        StickSums x = new StickSums();
        int calls = 0;
        for (String line : readme.split("\n")) {
            if (line.startsWith("x.")) {
                Matcher m = CALL.matcher(line);
                check(m.matches(), "no call with an answer: " + line);
                if (m.matches()) {
                    calls++;
                    String got = answer(x, m.group(1), m.group(2));
                    check(got.equals(m.group(3)), line + " answered " + got);
                }
            }
        }
        return calls;
    }

    private static String answer(StickSums x, String name, String arguments) throws ReflectiveOperationException {
        String[] parts = arguments.isEmpty() ? new String[0] : arguments.split(", *");
        for (Method m : StickSums.class.getDeclaredMethods()) {
            if (m.getName().equals(name) && m.getParameterCount() == parts.length) {
                Object[] values = new Object[parts.length];
                for (int i = 0; i < parts.length; i++) {
                    boolean truth = m.getParameterTypes()[i] == boolean.class;
                    values[i] = truth ? (Object) Boolean.valueOf(parts[i]) : (Object) Integer.decode(parts[i]);
                }
                return String.valueOf(m.invoke(x, values));
            }
        }
        return "nothing: there is no such call";
    }

    /** The table of calls has each public method, and nothing else. */
    private static void names(String readme) {
        Set<String> told = new TreeSet<>();
        int from = readme.indexOf("| calls |");
        int to = readme.indexOf("\n\n", from);
        check(from >= 0 && to > from, "no table of calls");
        Matcher m = Pattern.compile("`(\\w+)`").matcher(from >= 0 && to > from ? readme.substring(from, to) : "");
        while (m.find()) {
            check(told.add(m.group(1)), m.group(1) + " is told twice");
        }
        Set<String> due = new TreeSet<>();
        for (Method method : StickSums.class.getDeclaredMethods()) {
            if (java.lang.reflect.Modifier.isPublic(method.getModifiers())) {
                due.add(method.getName());
            }
        }
        check(told.equals(due), "calls in README.md: " + told + ", of the class: " + due);
    }
}
