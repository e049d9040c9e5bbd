import java.io.IOException;
import java.lang.reflect.Constructor;
import java.lang.reflect.Field;
import java.lang.reflect.Method;
import java.lang.reflect.Modifier;
import java.nio.file.Files;
import java.nio.file.Path;
import java.util.ArrayList;
import java.util.List;
import java.util.Map;
import java.util.Set;
import java.util.TreeMap;
import java.util.TreeSet;
import java.util.regex.Matcher;
import java.util.regex.Pattern;

/** The rules of LANGUAGE.md that a look at the source and at the compiled class can tell. */
public final class LanguageTest {
    private static final String[] FACE = {
        "int comer(int,int,int,int)", "int told(int,int)", "int as(int,int)", "int turns(int,int)", "int set(int,int,int)", "int well(int,int)",
        "int deal(int)", "int seed(int)", "int run(int)", "int behind(int,int)", "int fullIn(int)", "int best(int,int,int)", "int alone(int,int)",
        "long mean(int)", "int least()", "int fine(int)", "int feed(int,int,int)", "int trim(int)", "int text()", "int textTold(int,int)",
        "int why(int)", "int sheet(int,int,int)", "int mark(int,int,int)", "int pour(int)", "int explained(int,int)",
        "int copy(int,int,int,int,int)", "int lay(int,int,int)", "int ask(int,int)", "int item(int,int)", "int rest(int,int)", "int tell(int)",
        "int check(int)", "int keep()", "int back()", "int count(int)"};

    public static void main(String[] args) throws IOException {
        String source = Files.readString(Path.of("src/main/java/ShyWell.java"));
        String code = bare(source);
        face();
        constants();
        words(code);
        methodLengths(code);
        nestedClasses();
        for (int i = 0; i < source.length(); i++) if (source.charAt(i) > 126) Due.is("a sign above 126 at " + i, source.charAt(i), 0);
        Due.end();
    }

    /** The source without its comments, and without what stands in quotes. */
    private static String bare(String source) {
        return source.replaceAll("(?s)/\\*.*?\\*/", "").replaceAll("//[^\n]*", "").replaceAll("\"[^\"\n]*\"", "\"\"").replaceAll("'(\\\\.|[^'\n])'", "' '");
    }

    private static void face() {
        Set<String> due = new TreeSet<>(List.of(FACE)), got = new TreeSet<>(), names = new TreeSet<>();
        for (Method m : ShyWell.class.getDeclaredMethods()) {
            if (Modifier.isPrivate(m.getModifiers())) continue;
            got.add(signature(m));
            names.add(m.getName());
            Due.holds(m.getName() + " is public and of the object", Modifier.isPublic(m.getModifiers()) && !Modifier.isStatic(m.getModifiers()));
        }
        Due.holds("the face's methods: " + got, got.equals(due));
        List<Class<?>> all = new ArrayList<>(List.of(ShyWell.class.getDeclaredClasses()));
        all.add(ShyWell.class);
        for (Class<?> c : all) {
            for (Method m : c.getDeclaredMethods()) {
                Due.holds("no private " + m.getName(), !Modifier.isPrivate(m.getModifiers()) || !names.contains(m.getName()));
                Due.holds(m.getName() + " has at most seven parameters", m.getParameterCount() <= 7);
            }
        }
        Constructor<?>[] made = ShyWell.class.getDeclaredConstructors();
        Due.is("constructors", made.length, 1);
        Due.holds("it is public and takes nothing", Modifier.isPublic(made[0].getModifiers()) && made[0].getParameterCount() == 0);
        Due.holds("public and final", Modifier.isFinal(ShyWell.class.getModifiers()) && Modifier.isPublic(ShyWell.class.getModifiers()));
    }

    private static String signature(Method m) {
        StringBuilder text = new StringBuilder(m.getReturnType().getName()).append(' ').append(m.getName()).append('(');
        for (Class<?> p : m.getParameterTypes()) text.append(text.charAt(text.length() - 1) == '(' ? "" : ",").append(p.getName());
        return text.append(')').toString();
    }

    private static void constants() {
        Map<String, Integer> due = new TreeMap<>(Map.of("BAD", -1000000001, "NO", -1000000002, "FULL", -1000000003, "NONE", -1000000005,
            "NOTHING", -1000000011, "KIND", -1000000012, "INDEX", -1000000013, "SIZE", -1000000014));
        Map<String, Integer> got = new TreeMap<>();
        for (Field f : ShyWell.class.getDeclaredFields()) {
            if (Modifier.isPrivate(f.getModifiers())) continue;
            Due.holds(f.getName() + " is a public constant", Modifier.isPublic(f.getModifiers()) && Modifier.isStatic(f.getModifiers()) && Modifier.isFinal(f.getModifiers()));
            try {
                got.put(f.getName(), f.getInt(null));
            } catch (IllegalAccessException e) {
                Due.holds(f.getName() + " can be read", false);
            }
        }
        Due.holds("the constants: " + got, got.equals(due));
    }

    private static void words(String code) {
        for (String word : new String[] {"throw", "throws", "try", "catch", "finally", "synchronized", "assert", "native", "volatile", "transient", "package",
            "var", "Exact", "NaN", "System\\.(?!arraycopy)\\w+", "Thread", "Random", "Object", "double", "hashCode", "toString", "values"}) {
            Matcher m = Pattern.compile("\\b" + word + "\\b").matcher(code);
            Due.holds("no " + word, !m.find());
        }
        for (String sign : new String[] {"->", "::", "@", "\"\" +", "+ \"\""}) Due.holds("no " + sign, !code.contains(sign));
        Matcher imports = Pattern.compile("import\\s+([\\w.]+);").matcher(code);
        while (imports.find()) Due.holds("import " + imports.group(1), Set.of("java.util.Arrays", "java.util.ArrayList", "java.util.List").contains(imports.group(1)));
        Matcher statics = Pattern.compile("static\\s+(?!final)[\\w\\[\\]]+\\s+\\w+\\s*[=;,]").matcher(code);
        Due.holds("static fields are final", !statics.find());
    }

    /** A method is what opens with '{' at its class's own depth and is no class. */
    private static void methodLengths(String code) {
        String[] lines = code.split("\n");
        for (int i = 0; i < lines.length; i++) {
            Matcher head = Pattern.compile("^( {4}| {8})(public|private)[^=;]*\\) \\{$").matcher(lines[i]);
            if (!head.find()) continue;
            int end = i;
            while (!lines[end].equals(head.group(1) + "}")) end++;
            Due.holds("at most sixty lines: " + lines[i].trim(), end - i < 60);
        }
    }

    private static void nestedClasses() {
        Class<?>[] nested = ShyWell.class.getDeclaredClasses();
        Due.holds("at most twelve classes", nested.length < 12);
        for (Class<?> c : nested) {
            Due.holds(c + " is static and not public", Modifier.isStatic(c.getModifiers()) && !Modifier.isPublic(c.getModifiers()) && !Modifier.isProtected(c.getModifiers()));
            int fields = 0;
            for (Field f : c.getDeclaredFields()) if (!Modifier.isStatic(f.getModifiers())) fields++;
            Due.holds(c + " has at most twenty fields", fields <= 20);
        }
    }
}
