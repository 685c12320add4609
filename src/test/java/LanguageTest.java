import java.io.PrintWriter;
import java.io.StringWriter;
import java.lang.reflect.Constructor;
import java.lang.reflect.Field;
import java.lang.reflect.Method;
import java.lang.reflect.Modifier;
import java.nio.file.Files;
import java.nio.file.Path;
import java.util.ArrayList;
import java.util.List;
import java.util.Map;
import java.util.Optional;
import java.util.Set;
import java.util.TreeMap;
import java.util.TreeSet;
import java.util.regex.Matcher;
import java.util.regex.Pattern;
import java.util.spi.ToolProvider;

/** Rules of ../shared/LANGUAGE.md that can be seen in the text and in the compiled classes, and the document's face. */
public final class LanguageTest {
    private static final Path PROGRAM = Path.of("src/main/java/NobodysBard.java");
    private static final String FACE = "int open(int,int,int,int);int line(int,int,int,long);int print(int);int bounds(int,int);"
        + "long words(int,int,int);int like(long,long);int feed(int,int,int,int,int);int text(int,int);int fault(int);"
        + "long smoothed(long,int);int told(int,int,int,int);int whose(int,int);int late(int,int);int share(int,int);int span(int);"
        + "int chance(int,int);long odds(int,int);int matches(int,int);int most(int,int);int adds(int,int);int added(int,int,int);"
        + "int year(int,int);int version(long,long,int,int);int which(int);int answer(int,int,int,int,int,long);int back(int);"
        + "int backOdds(int,int);int parted(int,boolean);int muddled(int);int glen(int,int);int paid(int,int);int pages(int,int);"
        + "int more(int,int);int free(int,int);int rate();int world(int);int says(int,int,int);int ask(int,int);int row(int,int,int);"
        + "long write(int,int,long);int minister(int);int say(int);int image(int);int restore(int);int status(int);int count(int);";

    public static void main(String[] args) throws Exception {
        face();
        classes();
        text();
        calls();
        Due.end("LanguageTest");
    }

    private static void rule(int rule, String what, boolean kept) {
        Due.is("rule " + rule + ": " + what, kept ? 1 : 0, 1);
    }

    private static String told(Method m) {
        List<String> types = new ArrayList<>();
        for (Class<?> type : m.getParameterTypes()) types.add(type.getName());
        return m.getReturnType().getName() + " " + m.getName() + "(" + String.join(",", types) + ");";
    }

    private static void face() {
        Set<String> due = new TreeSet<>(List.of(FACE.split("(?<=;)")));
        Set<String> seen = new TreeSet<>();
        Set<String> names = new TreeSet<>();
        for (Method m : NobodysBard.class.getDeclaredMethods()) {
            if (Modifier.isPublic(m.getModifiers())) {
                seen.add(told(m));
                names.add(m.getName());
            }
        }
        rule(1, "the face is " + due + ", not " + seen, due.equals(seen));
        for (Method m : NobodysBard.class.getDeclaredMethods()) {
            if (m.isSynthetic() || Modifier.isPublic(m.getModifiers())) continue;
            rule(1, m + " is private", Modifier.isPrivate(m.getModifiers()));
            rule(1, m + " bears no public one's name", !names.contains(m.getName()));
        }
        for (Class<?> inside : NobodysBard.class.getDeclaredClasses()) {
            for (Method m : inside.getDeclaredMethods()) rule(1, m + " bears no public one's name", !names.contains(m.getName()));
        }
        for (Constructor<?> c : NobodysBard.class.getDeclaredConstructors()) {
            rule(1, "the constructor", Modifier.isPublic(c.getModifiers()) && c.getParameterCount() == 0);
        }
        for (Field f : NobodysBard.class.getDeclaredFields()) {
            rule(1, f + " is private but NONE", f.getName().equals("NONE") ? Modifier.isPublic(f.getModifiers()) : Modifier.isPrivate(f.getModifiers()));
        }
        rule(1, "public and final", Modifier.isPublic(NobodysBard.class.getModifiers()) && Modifier.isFinal(NobodysBard.class.getModifiers()));
    }

    private static void classes() {
        List<Class<?>> all = new ArrayList<>(List.of(NobodysBard.class.getDeclaredClasses()));
        rule(2, "classes inside are static", all.stream().allMatch(c -> Modifier.isStatic(c.getModifiers())));
        all.add(NobodysBard.class);
        rule(11, "classes: " + all.size(), all.size() <= 12);
        for (Class<?> c : all) {
            int fields = 0;
            for (Field f : c.getDeclaredFields()) {
                if (f.isSynthetic()) continue;
                if (Modifier.isStatic(f.getModifiers())) rule(5, f + " is a constant", Modifier.isFinal(f.getModifiers()) && f.getType().isPrimitive());
                else fields++;
            }
            rule(11, c + " has " + fields + " fields", fields <= 20);
            for (Method m : c.getDeclaredMethods()) rule(11, m + " has few parameters", m.getParameterCount() <= 7);
        }
    }

    private static void text() throws Exception {
        String text = Files.readString(PROGRAM);
        rule(3, "signs 1 to 127 alone", text.chars().allMatch(c -> c > 0 && c < 128));
        String code = text.replaceAll("(?s)/\\*.*?\\*/", " ").replaceAll("//[^\n]*", " ");
        for (String word : List.of("throw", "throws", "try", "catch", "finally", "synchronized", "assert", "package", "record", "var",
            "interface", "native", "volatile", "float", "double", "Object", "System\\.(?!arraycopy)", "Thread", "Random", "hashCode", "equals",
            "null", "instanceof", "\\w+Exact", "->", "::", "@", "new \\w+\\[[^\\]]*\\]\\[", "static \\{", "protected")) {
            String bounded = Character.isLetter(word.charAt(0)) ? "\\b" + word + "\\b" : word;
            rule(6, word + " doesn't stand there", !Pattern.compile(bounded).matcher(code).find());
        }
        Set<String> imports = new TreeSet<>();
        Matcher m = Pattern.compile("import ([^;]*);").matcher(code);
        while (m.find()) imports.add(m.group(1));
        rule(4, "imports " + imports, imports.equals(Set.of("java.util.Arrays")));
        rule(10, "no text joined by +", !Pattern.compile("\"\\s*\\+|\\+\\s*\"").matcher(code).find());
        rule(9, "no loop without an end", !Pattern.compile("while\\s*\\(|for\\s*\\([^;]*;\\s*;").matcher(code).find());
        lengths(text);
    }

    /** A method begins at its head, with 4 or 8 blanks ahead of it, and ends with the bracket below its head. */
    private static void lengths(String text) {
        String[] lines = text.split("\n");
        Pattern head = Pattern.compile("( {4}| {8})(?!.*\\b(class|if|for|switch|return)\\b)\\w.*\\) \\{");
        for (int i = 0; i < lines.length; i++) {
            Matcher m = head.matcher(lines[i]);
            if (!m.matches()) continue;
            int end = i;
            while (!lines[end].equals(m.group(1) + "}")) end++;
            rule(11, lines[i].trim() + " has " + (end - i + 1) + " lines", end - i < 60);
        }
    }

    /** Which method calls which, as javap shows it: name and number of parameters. */
    private static void calls() throws Exception {
        Optional<ToolProvider> javap = ToolProvider.findFirst("javap");
        if (javap.isEmpty()) return;
        Path where = Path.of(NobodysBard.class.getProtectionDomain().getCodeSource().getLocation().toURI());
        Map<String, Set<String>> calls = new TreeMap<>();
        List<Class<?>> all = new ArrayList<>(List.of(NobodysBard.class.getDeclaredClasses()));
        all.add(NobodysBard.class);
        for (Class<?> c : all) {
            StringWriter shown = new StringWriter();
            PrintWriter out = new PrintWriter(shown);
            javap.get().run(out, out, "-p", "-c", where.resolve(c.getName() + ".class").toString());
            callsOf(c.getName(), shown.toString(), calls);
        }
        rule(11, "methods seen: " + calls.size(), calls.size() > 100);
        Set<String> selves = new TreeSet<>();
        int deepest = 0;
        for (String method : calls.keySet()) {
            if (reached(method, calls).contains(method)) selves.add(method);
            deepest = Math.max(deepest, depth(method, calls, new TreeSet<>()));
        }
        rule(8, "only what reads a TEST calls itself, not " + selves, selves.equals(Set.of("NobodysBard$Reader.readFact/1", "NobodysBard$Reader.readTest/1")));
        rule(11, "calls go " + deepest + " deep", deepest > 3 && deepest <= 8);
    }

    private static void callsOf(String owner, String shown, Map<String, Set<String>> calls) {
        Pattern head = Pattern.compile("  (?! ).*?([\\w$]+)\\((.*)\\);");
        Pattern call = Pattern.compile("// Method (?:([\\w$]+)\\.)?(\\w+):\\((.*)\\)");
        Set<String> its = new TreeSet<>();
        for (String line : shown.split("\\R")) {
            Matcher h = head.matcher(line);
            if (h.matches()) {
                int parameters = h.group(2).isEmpty() ? 0 : h.group(2).split(",").length;
                its = calls.computeIfAbsent(owner + "." + h.group(1) + "/" + parameters, k -> new TreeSet<>());
            }
            Matcher c = call.matcher(line);
            if (!c.find()) continue;
            int parameters = c.group(3).replaceAll("\\[", "").replaceAll("L[^;]*;", "I").length();
            its.add((c.group(1) == null ? owner : c.group(1)) + "." + c.group(2) + "/" + parameters);
        }
    }

    private static Set<String> reached(String from, Map<String, Set<String>> calls) {
        Set<String> reached = new TreeSet<>();
        List<String> next = new ArrayList<>(List.of(from));
        while (!next.isEmpty()) {
            for (String method : calls.getOrDefault(next.remove(next.size() - 1), Set.of())) {
                if (reached.add(method)) next.add(method);
            }
        }
        return reached;
    }

    private static int depth(String method, Map<String, Set<String>> calls, Set<String> open) {
        if (!calls.containsKey(method) || !open.add(method)) return 0;
        int deepest = 0;
        for (String next : calls.get(method)) deepest = Math.max(deepest, depth(next, calls, open));
        open.remove(method);
        return deepest + 1;
    }
}
