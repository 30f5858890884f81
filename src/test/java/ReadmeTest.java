import java.io.IOException;
import java.lang.reflect.InvocationTargetException;
import java.lang.reflect.Method;
import java.nio.file.Files;
import java.nio.file.Path;
import java.util.Set;
import java.util.TreeSet;
import java.util.regex.Matcher;
import java.util.regex.Pattern;

/** The calls that README.md shows answer what it says behind them, and it shows every call there is. */
public final class ReadmeTest {
    /** A call with its arguments, and the first word of the remark behind it. */
    private static final Pattern SHOWN = Pattern.compile("hull\\.(\\w+)\\(([^)]*)\\);\\s+// ([-\\w.]+).*");

    public static void main(String[] args) throws IOException {
        HullBuilder hull = new HullBuilder();
        Set<String> shown = new TreeSet<>();
        for (String line : Files.readAllLines(Path.of("README.md"))) {
            if (!line.startsWith("hull.")) {
                continue;
            }
            Matcher call = SHOWN.matcher(line);
            Check.isTrue("README.md tells an answer: " + line, call.matches());
            Check.due("README.md: " + line, outcome(hull, call.group(1), call.group(2)), call.group(3));
            shown.add(call.group(1));
        }
        for (Method method : HullBuilder.class.getMethods()) {
            if (method.getDeclaringClass() == HullBuilder.class) {
                Check.isTrue("README.md shows " + method.getName(), shown.contains(method.getName()));
            }
        }
        Check.end();
    }

    /** The answer as text, or the name of what the call throws. */
    private static String outcome(HullBuilder hull, String name, String list) {
        String[] words = list.isEmpty() ? new String[0] : list.split(", ");
        Class<?>[] types = new Class<?>[words.length];
        Object[] values = new Object[words.length];
        for (int i = 0; i < words.length; i++) {
            types[i] = int.class;
            values[i] = Integer.valueOf(words[i]);
        }
        try {
            return String.valueOf(HullBuilder.class.getMethod(name, types).invoke(hull, values));
        } catch (InvocationTargetException thrown) {
            return thrown.getCause().getClass().getSimpleName();
        } catch (ReflectiveOperationException none) {
            return "no such call";
        }
    }
}
