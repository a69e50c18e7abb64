import java.io.IOException;
import java.io.PrintWriter;
import java.io.StringWriter;
import java.lang.reflect.Method;
import java.lang.reflect.Modifier;
import java.net.URL;
import java.net.URLClassLoader;
import java.nio.file.Files;
import java.nio.file.Path;
import java.util.ArrayList;
import java.util.List;
import java.util.regex.Matcher;
import java.util.regex.Pattern;
import java.util.spi.ToolProvider;
import java.util.stream.Stream;

/** README.md: its example compiles and answers as it says; it names every call, every test, and how to run them. */
final class ReadmeTest {
    private static final Due DUE = new Due("readme");
    private static final Pattern BLOCK = Pattern.compile("```java\n(.*?)```", Pattern.DOTALL);
    /** A call of the example, with the answer that stands behind it. */
    private static final Pattern ANSWERED = Pattern.compile("(x\\.\\w+\\(.*\\)); +// (-?\\d+|true|false): .*");

    public static void main(String[] args) throws IOException, ReflectiveOperationException {
        Path root = Path.of(args.length > 0 ? args[0] : ".");
        String readme = Files.readString(root.resolve("README.md"));
        names(readme, root);
        example(readme);
        DUE.finish();
    }

    private static void names(String readme, Path root) throws IOException {
        for (Method m : FieldKeepsCamps.class.getDeclaredMethods()) {
            if (Modifier.isPublic(m.getModifiers())) {
                boolean isNamed = Pattern.compile("`" + m.getName() + "\\([^()`]*\\)`").matcher(readme).find();
                DUE.is("the call " + m.getName() + " is named", isNamed, true);
            }
        }
        List<Path> tests;
        try (Stream<Path> files = Files.list(root.resolve("src/test/java"))) {
            tests = files.filter(file -> file.toString().endsWith("Test.java")).toList();
        }
        for (Path test : tests) {
            String name = test.getFileName().toString().replace(".java", "");
            DUE.is("the test " + name + " is named", readme.contains("`" + name + "`"), true);
        }
        Matcher named = Pattern.compile("`(\\w+Test)`").matcher(readme);
        while (named.find()) {
            boolean isThere = Files.exists(root.resolve("src/test/java/" + named.group(1) + ".java"));
            DUE.is(named.group() + " is there", isThere, true);
        }
        DUE.is("how to run the tests", readme.contains("    .ci/run\n"), true);
        DUE.is(".ci/run is there", Files.isExecutable(root.resolve(".ci/run")), true);
    }

    /** The helper and the example as a class whose main hands each answer to due(), beside the one that is told. */
    private static void example(String readme) throws IOException, ReflectiveOperationException {
        List<String> blocks = new ArrayList<>();
        Matcher block = BLOCK.matcher(readme);
        while (block.find()) {
            blocks.add(block.group(1));
        }
        DUE.is("a helper and an example", blocks.size(), 2);
        if (blocks.size() != 2) {
            return;
        }
        StringBuilder source = new StringBuilder("public final class ReadmeExample {\n");
        source.append(blocks.get(0)).append("static long number(boolean b) { return b ? 1 : 0; }\n");
        source.append("static long number(long n) { return n; }\n");
        source.append("public static long[][] run() {\njava.util.List<long[]> all = new java.util.ArrayList<>();\n");
        List<String> calls = new ArrayList<>();
        for (String line : blocks.get(1).split("\n")) {
            Matcher answered = ANSWERED.matcher(line);
            if (answered.matches()) {
                calls.add(answered.group(1));
                source.append("all.add(new long[] {number(").append(answered.group(1)).append("), number(")
                        .append(answered.group(2)).append(")});\n");
            } else {
                DUE.is("'" + line + "' asks nothing", line.contains("//") || line.startsWith("x."), false);
                source.append(line).append('\n');
            }
        }
        source.append("return all.toArray(new long[0][]);\n}\n}\n");
        DUE.is("calls in the example", calls.size() > 20, true);
        compare(calls, answers(source.toString()));
    }

    private static void compare(List<String> calls, long[][] answers) {
        DUE.is("answers of the example", answers.length, calls.size());
        for (int i = 0; i < Math.min(answers.length, calls.size()); i++) {
            DUE.is(calls.get(i), answers[i][0], answers[i][1]);
        }
    }

    private static long[][] answers(String source) throws IOException, ReflectiveOperationException {
        Path work = Files.createTempDirectory("readme");
        Path file = work.resolve("ReadmeExample.java");
        try {
            Files.writeString(file, source);
            StringWriter out = new StringWriter();
            int code = ToolProvider.findFirst("javac").orElseThrow().run(new PrintWriter(out), new PrintWriter(out),
                    "-classpath", System.getProperty("java.class.path"), "-d", work.toString(), file.toString());
            DUE.is("the example compiles; javac " + out, code, 0);
            return code == 0 ? run(work) : new long[0][];
        } finally {
            Files.deleteIfExists(file);
            Files.deleteIfExists(work.resolve("ReadmeExample.class"));
            Files.deleteIfExists(work);
        }
    }

    private static long[][] run(Path work) throws IOException, ReflectiveOperationException {
        URL[] places = {work.toUri().toURL()};
        try (URLClassLoader loader = new URLClassLoader(places, FieldKeepsCamps.class.getClassLoader())) {
            return (long[][]) loader.loadClass("ReadmeExample").getMethod("run").invoke(null);
        }
    }
}
