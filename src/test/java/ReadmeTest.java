import java.io.IOException;
import java.lang.reflect.Method;
import java.lang.reflect.Modifier;
import java.nio.file.Files;
import java.nio.file.Path;
import java.util.Map;
import java.util.TreeMap;
import java.util.regex.Matcher;
import java.util.regex.Pattern;

/** What README.md says of the calls is so: its example answers what it says, its table has the whole face. */
public final class ReadmeTest {
    private static final Map<String, Method> FACE = new TreeMap<>();

    public static void main(String[] args) throws IOException, ReflectiveOperationException {
        for (Method m : ShyWell.class.getDeclaredMethods()) if (Modifier.isPublic(m.getModifiers())) FACE.put(m.getName(), m);
        String readme = Files.readString(Path.of("README.md"));
        example(readme);
        table(readme);
        constants(readme);
        Due.end();
    }

    private static void example(String readme) throws ReflectiveOperationException {
        Matcher lines = Pattern.compile("(?m)^x\\.(\\w+)\\((.*?)\\);\\s*// (\\w+|-\\d+):").matcher(readme);
        ShyWell x = new ShyWell();
        int made = 0;
        while (lines.find()) {
            made++;
            long due = lines.group(3).matches("-?\\d+") ? Long.parseLong(lines.group(3)) : ShyWell.class.getField(lines.group(3)).getInt(null);
            Object got = FACE.get(lines.group(1)).invoke(x, arguments(lines.group(2)));
            Due.is("README's " + lines.group(1) + "(" + lines.group(2) + ")", ((Number) got).longValue(), due);
        }
        Due.is("how many calls README makes", made, readme.split("\nx\\.").length - 1);
        Due.holds("README makes calls", made > 10);
    }

    private static Object[] arguments(String list) {
        if (list.isEmpty()) return new Object[0];
        String[] parts = list.split(", ");
        Object[] with = new Object[parts.length];
        for (int i = 0; i < parts.length; i++) with[i] = Integer.decode(parts[i]);
        return with;
    }

    private static void table(String readme) {
        Map<String, Integer> found = new TreeMap<>();
        for (String line : readme.split("\n")) {
            if (!line.startsWith("| `")) continue;
            Matcher calls = Pattern.compile("`(\\w+)\\(([\\w, ]*)\\)`").matcher(line.split(" \\| ")[0]);
            while (calls.find()) found.put(calls.group(1), calls.group(2).isEmpty() ? 0 : calls.group(2).split(", ").length);
        }
        for (Method m : FACE.values()) Due.is("parameters of README's " + m.getName(), found.getOrDefault(m.getName(), -1), m.getParameterCount());
        Due.is("calls in README's table", found.size(), FACE.size());
    }

    private static void constants(String readme) {
        for (java.lang.reflect.Field f : ShyWell.class.getFields()) Due.holds("README has " + f.getName(), readme.contains("`" + f.getName() + "`"));
    }
}
