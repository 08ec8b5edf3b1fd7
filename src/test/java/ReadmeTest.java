import java.io.IOException;
import java.lang.reflect.Method;
import java.nio.file.Files;
import java.nio.file.Path;
import java.util.Map;
import java.util.TreeMap;
import java.util.TreeSet;
import java.util.regex.Matcher;
import java.util.regex.Pattern;

/** README.md shows every call of the face, and each answers what stands behind it there. */
public final class ReadmeTest {
    private static final Pattern CALL = Pattern.compile("it\\.(\\w+)\\(([^)]*)\\);\\s*// (true|false|-?\\d+)(:.*)?");

    public static void main(String[] args) throws IOException, ReflectiveOperationException {
        Check check = new Check();
        Map<String, Method> face = new TreeMap<>();
        for (Method m : RoundAnothers.class.getMethods()) {
            if (m.getDeclaringClass() == RoundAnothers.class) {
                face.put(m.getName(), m);
            }
        }
        TreeSet<String> missing = new TreeSet<>(face.keySet());
        RoundAnothers it = new RoundAnothers();
        for (String line : Files.readAllLines(page(args))) {
            Matcher m = CALL.matcher(line);
            boolean call = m.matches() && face.containsKey(m.group(1));
            check.due("a call with its answer: " + line, call, line.startsWith("it."));
            if (call) {
                missing.remove(m.group(1));
                check.due(line, answer(it, face.get(m.group(1)), m.group(2)), number(m.group(3)));
            }
        }
        check.due("calls that README.md does not show: " + missing, missing.size(), 0);
        check.end();
    }

    /** The argument is the source's path. */
    private static Path page(String[] args) {
        return Path.of(args.length > 0 ? args[0] + "/../../../../README.md" : "README.md").normalize();
    }

    private static long answer(RoundAnothers it, Method call, String told) throws ReflectiveOperationException {
        String[] parts = told.isEmpty() ? new String[0] : told.split(", *");
        Object[] arguments = new Object[parts.length];
        for (int i = 0; i < parts.length; i++) {
            boolean truth = call.getParameterTypes()[i] == boolean.class;
            arguments[i] = truth ? (Object) Boolean.valueOf(parts[i]) : (Object) (int) number(parts[i]);
        }
        return number(call.invoke(it, arguments).toString());
    }

    private static long number(String told) {
        switch (told) {
            case "NONE": return RoundAnothers.NONE;
            case "true": return 1;
            case "false": return 0;
            default: return Long.decode(told);
        }
    }
}
