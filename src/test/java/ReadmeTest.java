import java.lang.reflect.Method;
import java.nio.file.Files;
import java.nio.file.Path;
import java.util.Arrays;
import java.util.TreeSet;
import java.util.regex.Matcher;
import java.util.regex.Pattern;

/** README.md's example is run as it stands there; it shows every method of the class. */
public final class ReadmeTest {
    private static final Pattern MAKING = Pattern.compile(
            "BatchAdmission batch = new BatchAdmission\\((-?\\d+), (-?\\d+)\\);.*");
    private static final Pattern CALL = Pattern.compile("batch\\.(\\w+)\\(([-\\d, ]*)\\);\\s*// (-?\\d+)(,.*)?");

    private static int wrong = 0;

    private static void report(String what) {
        wrong++;
        System.out.println("README.md: " + what);
    }

    private static Object[] numbers(String list) {
        if (list.isEmpty()) {
            return new Object[0];
        }
        String[] parts = list.split(", ");
        Object[] numbers = new Object[parts.length];
        for (int i = 0; i < parts.length; i++) {
            numbers[i] = Integer.valueOf(parts[i]);
        }
        return numbers;
    }

    private static int answer(BatchAdmission batch, String name, Object[] arguments) throws Exception {
        Class<?>[] types = new Class<?>[arguments.length];
        Arrays.fill(types, int.class);
        return (int) BatchAdmission.class.getMethod(name, types).invoke(batch, arguments);
    }

    private static TreeSet<String> publicMethods() {
        TreeSet<String> names = new TreeSet<>();
        for (Method method : BatchAdmission.class.getMethods()) {
            if (method.getDeclaringClass() == BatchAdmission.class) {
                names.add(method.getName());
            }
        }
        return names;
    }

    public static void main(String[] args) throws Exception {
        TreeSet<String> notShown = publicMethods();
        BatchAdmission batch = null;
        int calls = 0;
        for (String line : Files.readAllLines(Path.of("README.md"))) {
            Matcher making = MAKING.matcher(line);
            Matcher call = CALL.matcher(line);
            if (making.matches()) {
                batch = new BatchAdmission(Integer.parseInt(making.group(1)), Integer.parseInt(making.group(2)));
            } else if (call.matches() && batch != null) {
                calls++;
                notShown.remove(call.group(1));
                int got = answer(batch, call.group(1), numbers(call.group(2)));
                if (got != Integer.parseInt(call.group(3))) {
                    report("[" + line + "] answered " + got);
                }
            } else if (line.startsWith("batch.")) {
                report("[" + line + "] can't be read as a call with its answer");
            }
        }
        if (!notShown.isEmpty()) {
            report("the example does not show " + notShown);
        }
        System.out.println("README.md: " + calls + " calls, " + wrong + " wrong");
        if (wrong != 0) {
            System.exit(1);
        }
    }
}
