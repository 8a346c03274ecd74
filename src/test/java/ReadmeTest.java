import java.io.IOException;
import java.lang.reflect.Method;
import java.lang.reflect.Modifier;
import java.net.URL;
import java.net.URLClassLoader;
import java.nio.file.Files;
import java.nio.file.Path;
import java.util.ArrayList;
import java.util.Comparator;
import java.util.List;
import java.util.regex.Matcher;
import java.util.regex.Pattern;
import java.util.stream.Stream;
import javax.tools.ToolProvider;

/** README.md names every call and every test, and what its examples answer is what it says behind them. */
public final class ReadmeTest {
    private static final Due DUE = new Due();
    private static final Pattern ANSWERED = Pattern.compile("(?:\\w+ (\\w+) = )?(.+); *// = ([^:]+)(?::.*)?");
    private static final Pattern REFUSED = Pattern.compile("(.+); *// throws (\\w+)(?::.*)?");

    public static void main(String[] args) throws IOException, ReflectiveOperationException {
        String readme = Files.readString(Path.of("README.md"));
        names(readme);
        List<String> blocks = Pattern.compile("(?s)```java\n(.*?)```").matcher(readme).results().map(r -> r.group(1)).toList();
        DUE.is("there are examples", blocks.isEmpty(), false);
        for (String block : blocks) {
            example(block);
        }
        DUE.end();
    }

    private static void names(String readme) throws IOException {
        for (Method m : MiddleScale.class.getDeclaredMethods()) {
            if (Modifier.isPublic(m.getModifiers())) {
                DUE.is("names " + m.getName(), readme.contains("`" + m.getName() + "("), true);
            }
        }
        try (Stream<Path> files = Files.list(Path.of("src/test/java"))) {
            for (Path file : files.filter(f -> f.toString().endsWith("Test.java")).toList()) {
                String name = file.getFileName().toString().replace(".java", "");
                DUE.is("names " + name, readme.contains("`" + name + "`"), true);
            }
        }
    }

    /** Runs the block's lines as they stand and looks at each answer that is told behind one. */
    private static void example(String block) throws IOException, ReflectiveOperationException {
        List<String> told = new ArrayList<>();
        StringBuilder body = new StringBuilder();
        for (String line : block.lines().toList()) {
            Matcher answered = ANSWERED.matcher(line.strip());
            Matcher refused = REFUSED.matcher(line.strip());
            if (answered.matches()) {
                boolean kept = answered.group(1) != null;
                body.append(kept ? line.replaceFirst(" *//.*", "\n") : "");
                body.append("got.add(String.valueOf(").append(kept ? answered.group(1) : answered.group(2)).append("));\n");
                told.add(answered.group(3).strip());
            } else if (refused.matches()) {
                body.append("try { ").append(refused.group(1)).append("; got.add(\"nothing\"); }")
                    .append(" catch (RuntimeException e) { got.add(e.getClass().getSimpleName()); }\n");
                told.add(refused.group(2));
            } else {
                body.append(line).append('\n');
            }
        }
        DUE.is("the answers of\n" + block, run(body.toString()), told);
    }

    private static Object run(String body) throws IOException, ReflectiveOperationException {
        Path dir = Files.createTempDirectory("readme");
        try {
            Path source = dir.resolve("Example.java");
            Files.writeString(source, "public class Example {\npublic static java.util.List<String> run() {\n"
                + "java.util.List<String> got = new java.util.ArrayList<>();\n" + body + "return got;\n}\n}\n");
            String path = System.getProperty("java.class.path");
            int failed = ToolProvider.getSystemJavaCompiler()
                .run(null, null, null, "-cp", path, "-d", dir.toString(), source.toString());
            if (failed != 0) {
                return "no Java:\n" + body;
            }
            try (URLClassLoader loader = new URLClassLoader(new URL[] {dir.toUri().toURL()})) {
                return loader.loadClass("Example").getMethod("run").invoke(null);
            }
        } finally {
            try (Stream<Path> files = Files.walk(dir)) {
                for (Path file : files.sorted(Comparator.reverseOrder()).toList()) {
                    Files.delete(file);
                }
            }
        }
    }
}
