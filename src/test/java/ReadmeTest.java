import java.io.File;
import java.lang.reflect.Field;
import java.net.URL;
import java.net.URLClassLoader;
import java.nio.file.Files;
import java.nio.file.Path;
import java.util.Comparator;
import java.util.List;
import java.util.regex.Matcher;
import java.util.regex.Pattern;
import java.util.spi.ToolProvider;
import java.util.stream.Stream;

/** What README.md says is so: its example is compiled and run, and all tests and classes are named there. */
public final class ReadmeTest {
    private static final Pattern CALL = Pattern.compile("(?:int (\\w+) = )?(bard\\.\\w+\\(.*\\)); +// (-?\\d+): .+");
    private static final Pattern NAMED = Pattern.compile("`(\\w+)`");

    public static void main(String[] args) throws Exception {
        String readme = Files.readString(Path.of("README.md"));
        example(readme.substring(readme.indexOf("```java\n") + 8, readme.indexOf("\n```\n")));
        tests(readme);
        classes(readme);
        Due.end("ReadmeTest");
    }

    private static void example(String example) throws Exception {
        StringBuilder source = new StringBuilder("public final class Example {\n    public static void run() {\n");
        for (String line : example.split("\n")) {
            Matcher call = CALL.matcher(line);
            if (!call.matches()) {
                Due.is("begins: " + line, line.equals("NobodysBard bard = new NobodysBard();") ? 1 : 0, 1);
                source.append(line).append('\n');
                continue;
            }
            String kept = call.group(1) == null ? "answer" : call.group(1);
            source.append(call.group(1) == null ? "{ long " : "int ").append(kept).append(" = ").append(call.group(2)).append(";\n");
            source.append("Due.is(\"README: ").append(call.group(2)).append("\", ").append(kept).append(", ").append(call.group(3)).append(");\n");
            source.append(call.group(1) == null ? "}\n" : "");
        }
        Path where = Files.createTempDirectory("readme");
        try {
            run(where, source.append("    }\n}\n").toString());
        } finally {
            remove(where);
        }
    }

    /** Due is seen from its own package alone, and a package is of one loader: so the example gets a loader with a Due of its own. */
    private static void run(Path where, String source) throws Exception {
        Path file = Files.writeString(where.resolve("Example.java"), source);
        String own = Path.of(ReadmeTest.class.getProtectionDomain().getCodeSource().getLocation().toURI()).toString();
        ToolProvider javac = ToolProvider.findFirst("javac").orElseThrow();
        int code = javac.run(System.out, System.out, "-d", where.toString(), "-cp", own, file.toString());
        Due.is("the example compiles", code, 0);
        if (code != 0) return;
        URL[] both = {where.toUri().toURL(), new File(own).toURI().toURL()};
        try (URLClassLoader loader = new URLClassLoader(both, ClassLoader.getPlatformClassLoader())) {
            loader.loadClass("Example").getMethod("run").invoke(null);
            Class<?> due = loader.loadClass("Due");
            for (String count : List.of("asked", "wrong")) {
                Field field = due.getDeclaredField(count);
                field.setAccessible(true);
                int many = field.getInt(null);
                Due.is("answers of the example: " + many + " " + count, count.equals("wrong") == (many == 0) ? 1 : 0, 1);
            }
        }
    }

    private static void remove(Path where) throws Exception {
        try (Stream<Path> all = Files.walk(where)) {
            for (Path one : all.sorted(Comparator.reverseOrder()).toList()) Files.delete(one);
        }
    }

    private static void tests(String readme) throws Exception {
        try (Stream<Path> all = Files.list(Path.of("src/test/java"))) {
            for (Path one : all.toList()) {
                String name = one.getFileName().toString().replace(".java", "");
                Due.is("README names " + name, readme.contains("`" + name + "`") ? 1 : 0, 1);
            }
        }
        Matcher named = NAMED.matcher(readme);
        while (named.find()) {
            if (!named.group(1).endsWith("Test")) continue;
            Due.is("there is " + named.group(1), Files.exists(Path.of("src/test/java/" + named.group(1) + ".java")) ? 1 : 0, 1);
        }
    }

    private static void classes(String readme) {
        for (Class<?> inside : NobodysBard.class.getDeclaredClasses()) {
            String name = inside.getSimpleName();
            Due.is("README names " + name, readme.contains("`" + name + "`") ? 1 : 0, 1);
        }
        Due.is("NONE", NobodysBard.NONE, -1);
    }
}
