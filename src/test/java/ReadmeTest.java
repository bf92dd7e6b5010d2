import java.io.IOException;
import java.lang.reflect.InvocationTargetException;
import java.lang.reflect.Method;
import java.lang.reflect.Modifier;
import java.nio.file.Files;
import java.nio.file.Path;
import java.util.Set;
import java.util.TreeSet;
import java.util.regex.Matcher;
import java.util.regex.Pattern;

/** What README.md tells of the class is so: each call of its examples answers what stands behind it, each call is told. */
public final class ReadmeTest {
    private static final Check CHECK = new Check();
    private static final Pattern CALL = Pattern.compile("x\\.(\\w+)\\((.*?)\\); +// (-?\\d+)(\\D.*)?");
    private static final Pattern TOLD = Pattern.compile("\\| `(\\w+)\\((.*?)\\)` \\|.*");

    private static Method method(String name, int arguments) {
        for (Method m : PriceRise.class.getDeclaredMethods()) {
            boolean isPublic = Modifier.isPublic(m.getModifiers());
            if (isPublic && m.getName().equals(name) && m.getParameterCount() == arguments) return m;
        }
        return null;
    }

    private static String[] split(String list) {
        return list.isEmpty() ? new String[0] : list.split(", ");
    }

    private static long answer(PriceRise x, Method m, String[] texts) throws IllegalAccessException, InvocationTargetException {
        Object[] values = new Object[texts.length];
        for (int i = 0; i < texts.length; i++) {
            if (m.getParameterTypes()[i] == boolean.class) values[i] = Boolean.valueOf(texts[i]);
            else values[i] = Integer.valueOf(texts[i]);
        }
        return ((Number) m.invoke(x, values)).longValue();
    }

    private static void example(String[] lines, int start) throws IllegalAccessException, InvocationTargetException {
        PriceRise x = null;
        for (int i = start; i < lines.length && !lines[i].equals("```"); i++) {
            if (lines[i].startsWith("PriceRise x = new PriceRise();")) {
                x = new PriceRise();
                continue;
            }
            Matcher call = CALL.matcher(lines[i]);
            boolean isCall = x != null && call.matches();
            Method m = isCall ? method(call.group(1), split(call.group(2)).length) : null;
            CHECK.due("README: " + lines[i] + " is a call with its answer", m == null ? 0 : 1, 1);
            if (m == null) continue;
            CHECK.due("README: " + lines[i], answer(x, m, split(call.group(2))), Long.parseLong(call.group(3)));
        }
    }

    private static void calls(String[] lines) {
        Set<String> told = new TreeSet<>();
        for (String line : lines) {
            Matcher call = TOLD.matcher(line);
            if (!call.matches()) continue;
            told.add(call.group(1));
            CHECK.due("README tells of " + line, method(call.group(1), split(call.group(2)).length) == null ? 0 : 1, 1);
        }
        for (Method m : PriceRise.class.getDeclaredMethods()) {
            if (!Modifier.isPublic(m.getModifiers())) continue;
            CHECK.due("README tells of " + m.getName(), told.contains(m.getName()) ? 1 : 0, 1);
        }
    }

    public static void main(String[] args) throws IOException, IllegalAccessException, InvocationTargetException {
        String[] lines = Files.readString(Path.of("README.md")).split("\n");
        int examples = 0;
        for (int i = 0; i < lines.length; i++) {
            if (!lines[i].equals("```java")) continue;
            examples++;
            example(lines, i + 1);
        }
        CHECK.due("README has examples", examples > 0 ? 1 : 0, 1);
        calls(lines);
        CHECK.end();
    }
}
