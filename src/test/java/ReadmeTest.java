import java.io.IOException;
import java.lang.reflect.Method;
import java.nio.file.Files;
import java.nio.file.Path;
import java.util.TreeSet;
import java.util.regex.Matcher;
import java.util.regex.Pattern;

/** The case of README.md and the calls below it, each with the answer that stands beside it. */
final class ReadmeTest {
    private static final Pattern CASE = Pattern.compile("```text\n(.*?)```", Pattern.DOTALL);
    private static final Pattern CALL = Pattern.compile("(?m)^x\\.(\\w+)\\(([^)]*)\\); +// (-?\\d+|true|false): .*$");

    public static void main(String[] args) throws IOException, ReflectiveOperationException {
        String readme = Files.readString(Path.of("README.md"));
        Matcher told = CASE.matcher(readme);
        Check.due("README.md has a case", told.find(), true);
        SaidSo x = Check.told(told.group(1));
        int calls = 0;
        Matcher row = CALL.matcher(readme);
        while (row.find()) {
            calls++;
            String got = String.valueOf(answer(x, row.group(1), row.group(2)));
            Check.due("README.md: " + row.group() + " (answered " + got + ")", got.equals(row.group(3)), true);
        }
        Check.due("calls in README.md", calls, Pattern.compile("(?m)^x\\.").matcher(readme).results().count());
        Check.due("there are some", calls > 30, true);
        allNamed(readme);
        Check.end();
    }

    private static Method method(String name) {
        for (Method m : SaidSo.class.getMethods()) {
            if (m.getName().equals(name)) {
                return m;
            }
        }
        throw new IllegalArgumentException("README.md calls " + name);
    }

    private static Object answer(SaidSo x, String name, String arguments) throws ReflectiveOperationException {
        Method m = method(name);
        String[] written = arguments.isEmpty() ? new String[0] : arguments.split(", ");
        Object[] values = new Object[written.length];
        for (int i = 0; i < written.length; i++) {
            boolean yes = m.getParameterTypes()[i] == boolean.class;
            values[i] = yes ? (Object) Boolean.valueOf(written[i]) : (Object) Integer.valueOf(written[i]);
        }
        return m.invoke(x, values);
    }

    /** Each call of the face must be told of. */
    private static void allNamed(String readme) {
        TreeSet<String> names = new TreeSet<>();
        for (Method m : SaidSo.class.getMethods()) {
            if (m.getDeclaringClass() == SaidSo.class) {
                names.add(m.getName());
            }
        }
        Check.due("calls of the face", names.size(), 31);
        for (String name : names) {
            Check.due("README.md tells of " + name, readme.contains("`" + name + "`"), true);
        }
    }
}
