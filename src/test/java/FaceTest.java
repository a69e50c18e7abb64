import java.io.IOException;
import java.io.PrintWriter;
import java.io.StringWriter;
import java.lang.reflect.Constructor;
import java.lang.reflect.Field;
import java.lang.reflect.Method;
import java.lang.reflect.Modifier;
import java.nio.file.Files;
import java.nio.file.Path;
import java.util.HashSet;
import java.util.List;
import java.util.Map;
import java.util.Set;
import java.util.TreeMap;
import java.util.TreeSet;
import java.util.regex.Matcher;
import java.util.regex.Pattern;
import java.util.spi.ToolProvider;

/** The public face is the document's, no more and no less; the source keeps to what can be read off of LANGUAGE.md. */
final class FaceTest {
    private static final Due DUE = new Due("face");

    public static void main(String[] args) throws IOException {
        Path root = Path.of(args.length > 0 ? args[0] : ".");
        Path shared = Path.of(args.length > 1 ? args[1] : "../shared");
        face(Files.readString(shared.resolve("DOC.md")));
        members();
        depth();
        source(Files.readAllLines(root.resolve("src/main/java/FieldKeepsCamps.java")));
        DUE.finish();
    }

    private static void face(String doc) {
        Set<String> due = new TreeSet<>();
        int from = doc.indexOf("public final class FieldKeepsCamps {");
        String block = doc.substring(from, doc.indexOf("```", from));
        Matcher line = Pattern.compile("public (static final )?[^;{]*;").matcher(block);
        while (line.find()) {
            due.add(line.group().replaceAll("\\b(int|long|boolean) \\w+(?=[,)])", "$1").replace(";", ""));
        }
        Set<String> have = new TreeSet<>();
        for (Constructor<?> c : FieldKeepsCamps.class.getConstructors()) {
            have.add("public FieldKeepsCamps(" + types(c.getParameterTypes()) + ")");
        }
        for (Field f : FieldKeepsCamps.class.getFields()) {
            have.add("public static final " + f.getType() + " " + f.getName() + " = " + FieldKeepsCamps.NONE);
        }
        for (Method m : FieldKeepsCamps.class.getDeclaredMethods()) {
            if (Modifier.isPublic(m.getModifiers())) {
                String thrown = m.getExceptionTypes().length > 0 ? " throws NoSuchElementException" : "";
                have.add("public " + m.getReturnType() + " " + m.getName() + "(" + types(m.getParameterTypes()) + ")"
                        + thrown);
            }
        }
        for (String one : due) {
            DUE.is("the document's " + one, have.contains(one), true);
        }
        for (String one : have) {
            DUE.is("the class's " + one, due.contains(one), true);
        }
        DUE.is("how many", due.size(), 49);
        DUE.is("final", Modifier.isFinal(FieldKeepsCamps.class.getModifiers()), true);
    }

    private static String types(Class<?>[] types) {
        StringBuilder s = new StringBuilder();
        for (Class<?> type : types) {
            s.append(s.length() > 0 ? ", " : "").append(type);
        }
        return s.toString();
    }

    private static void members() {
        Set<String> open = new HashSet<>();
        for (Method m : FieldKeepsCamps.class.getDeclaredMethods()) {
            boolean isPublic = Modifier.isPublic(m.getModifiers());
            DUE.is(m + " is public or private", isPublic || Modifier.isPrivate(m.getModifiers()), true);
            if (isPublic) {
                open.add(m.getName());
            }
        }
        for (Field f : FieldKeepsCamps.class.getDeclaredFields()) {
            boolean isNone = f.getName().equals("NONE");
            DUE.is(f + " is private", isNone || Modifier.isPrivate(f.getModifiers()), true);
            DUE.is(f + " is final, if static", fixed(f), true);
        }
        Class<?>[] inside = FieldKeepsCamps.class.getDeclaredClasses();
        DUE.is("classes", inside.length <= 11, true);
        for (Class<?> c : inside) {
            DUE.is(c + " is static", Modifier.isStatic(c.getModifiers()), true);
            DUE.is(c + " is private", Modifier.isPrivate(c.getModifiers()), true);
            for (Method m : c.getDeclaredMethods()) {
                DUE.is(m + " has a name of its own", open.contains(m.getName()), false);
                DUE.is(m + " has seven parameters at most", m.getParameterCount() <= 7, true);
            }
            for (Field f : c.getDeclaredFields()) {
                DUE.is(f + " is final, if static", fixed(f), true);
            }
        }
        for (Method m : FieldKeepsCamps.class.getDeclaredMethods()) {
            boolean isPrivate = Modifier.isPrivate(m.getModifiers());
            DUE.is(m + " has a name of its own", isPrivate && open.contains(m.getName()), false);
        }
    }

    private static boolean fixed(Field f) {
        return !Modifier.isStatic(f.getModifiers()) || Modifier.isFinal(f.getModifiers());
    }

    /** Calls go at most eight deep, by the byte code; the reader of rules alone calls itself. */
    private static void depth() {
        Map<String, Set<String>> calls = new TreeMap<>();
        readCalls("FieldKeepsCamps", calls);
        for (Class<?> c : FieldKeepsCamps.class.getDeclaredClasses()) {
            readCalls(c.getName(), calls);
        }
        DUE.is("methods were read", calls.size() > 100, true);
        for (String method : calls.keySet()) {
            int deep = deep(method, calls, 0);
            DUE.is(method + " goes " + deep + " deep", deep <= 8, true);
        }
    }

    private static void readCalls(String name, Map<String, Set<String>> calls) {
        StringWriter out = new StringWriter();
        ToolProvider javap = ToolProvider.findFirst("javap").orElseThrow();
        String path = System.getProperty("java.class.path");
        javap.run(new PrintWriter(out), new PrintWriter(out), "-c", "-p", "-classpath", path, name);
        Set<String> now = new TreeSet<>();
        Pattern method = Pattern.compile("^  \\S.*?([\\w$]+)\\(.*;$");
        Pattern call = Pattern.compile("// Method (?:([\\w$]+)\\.)?\"?(\\w+|<init>)\"?:");
        for (String line : out.toString().split("\n")) {
            Matcher begins = method.matcher(line);
            Matcher called = call.matcher(line);
            if (begins.find()) {
                String of = begins.group(1).equals(name) ? "<init>" : begins.group(1);
                now = calls.computeIfAbsent(name + "." + of, key -> new TreeSet<>());
            } else if (called.find()) {
                now.add((called.group(1) == null ? name : called.group(1)) + "." + called.group(2));
            }
        }
    }

    private static int deep(String method, Map<String, Set<String>> calls, int above) {
        int most = 0;
        boolean readsRule = method.startsWith("FieldKeepsCamps$RuleReader.");
        for (String called : calls.getOrDefault(method, Set.of())) {
            boolean isPart = called.startsWith("FieldKeepsCamps$RuleReader.");
            if (calls.containsKey(called) && !(readsRule && isPart) && above < 40) {
                most = Math.max(most, deep(called, calls, above + 1));
            }
        }
        return most + 1;
    }

    private static void source(List<String> lines) {
        String[] never = {"->", "::", "catch", "finally", "synchronized", "assert", "Exact(", "getMessage", "System.out",
            "Random", "Thread", "System.getenv", "System.nano", "System.current", "static {", "protected", "hashCode",
            "toString", "double", "float", "package ", "instanceof", "Iterator", "HashMap", "var "};
        Set<String> imports = Set.of("import java.util.Arrays;", "import java.util.NoSuchElementException;");
        Pattern called = Pattern.compile("\\b(Math|Integer|Long|Arrays|System)\\.(\\w+)");
        Set<String> calls = Set.of("Math.max", "Math.min", "Integer.bitCount", "Long.bitCount", "Integer.MAX_VALUE",
                "Arrays.fill", "System.arraycopy");
        int begins = 0;
        for (int i = 0; i < lines.size(); i++) {
            String line = lines.get(i);
            for (String word : never) {
                DUE.is("line " + (i + 1) + " has " + word, line.contains(word), false);
            }
            if (line.startsWith("import")) {
                DUE.is(line, imports.contains(line), true);
            }
            Matcher call = called.matcher(line);
            while (call.find() && !line.startsWith("import")) {
                DUE.is("line " + (i + 1) + " calls " + call.group(), calls.contains(call.group()), true);
            }
            // methods begin four or eight deep, and end with a brace as deep
            if (line.matches("( {4}| {8})[^ /*}].*\\) (throws \\w+ )?\\{")) {
                begins = i;
            } else if (line.matches("( {4}| {8})\\}")) {
                DUE.is("the method at line " + (begins + 1) + " is short", i - begins <= 60, true);
            }
            DUE.is("line " + (i + 1) + " is not too long", line.length() <= 120, true);
        }
    }
}
