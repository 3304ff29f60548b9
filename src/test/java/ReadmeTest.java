import java.io.IOException;
import java.lang.reflect.Method;
import java.lang.reflect.Modifier;
import java.nio.file.Files;
import java.nio.file.Path;
import java.util.Arrays;
import java.util.Set;
import java.util.TreeSet;
import java.util.regex.Matcher;
import java.util.regex.Pattern;

/** The calls of README.md, one behind the other on one object, answer what stands behind them there. */
public final class ReadmeTest {
    private static final Pattern EXAMPLE = Pattern.compile("x\\.(\\w+)\\((.*)\\); +// (-?\\w+).*");
    private static final Pattern MAKING = Pattern.compile("HalfMaps x = new HalfMaps\\(\\);");
    private static int wrong = 0;
    private static int looked = 0;
    private static final Set<String> SHOWN = new TreeSet<>();

    public static void main(String[] args) throws IOException, ReflectiveOperationException {
        String page = Files.readString(Path.of("README.md"));
        HalfMaps x = null;
        boolean isCode = false;
        for (String line : page.split("\n")) {
            if (line.startsWith("```")) {
                isCode = line.equals("```java");
            } else if (isCode && MAKING.matcher(line).matches()) {
                x = new HalfMaps();
            } else if (isCode) {
                example(x, line);
            }
        }
        eachCallIsShown(page);
        System.out.println(wrong == 0 ? looked + " examples are as due" : wrong + " faults of the examples");
        if (wrong != 0) {
            System.exit(1);
        }
    }

    private static void fault(String text) {
        wrong++;
        System.out.println(text);
    }

    private static void example(HalfMaps x, String line) throws ReflectiveOperationException {
        Matcher m = EXAMPLE.matcher(line);
        if (x == null || !m.matches()) {
            fault("no example: " + line);
            return;
        }
        looked++;
        SHOWN.add(m.group(1));
        Object[] arguments = arguments(m.group(2));
        Class<?>[] types = new Class<?>[arguments.length];
        Arrays.fill(types, int.class);
        Object answer = HalfMaps.class.getMethod(m.group(1), types).invoke(x, arguments);
        if (!answer.equals(number(m.group(3)))) {
            fault(line + " : answered " + answer);
        }
    }

    private static Object[] arguments(String text) {
        if (text.isEmpty()) {
            return new Object[0];
        }
        String[] parts = text.split(", ");
        Object[] arguments = new Object[parts.length];
        for (int i = 0; i < parts.length; i++) {
            arguments[i] = parts[i].startsWith("'") ? (int) parts[i].charAt(1) : Integer.parseInt(parts[i]);
        }
        return arguments;
    }

    /** A number, or the name of a constant of the class. */
    private static int number(String text) throws ReflectiveOperationException {
        return text.matches("-?\\d+") ? Integer.parseInt(text) : HalfMaps.class.getField(text).getInt(null);
    }

    private static void eachCallIsShown(String page) {
        for (Method m : HalfMaps.class.getDeclaredMethods()) {
            if (Modifier.isPublic(m.getModifiers())) {
                if (!SHOWN.contains(m.getName())) {
                    fault("no example of " + m.getName());
                }
                if (!page.contains("| `" + m.getName() + "(")) {
                    fault("no row for " + m.getName());
                }
            }
        }
    }
}
