import java.io.IOException;
import java.lang.reflect.Method;
import java.lang.reflect.Modifier;
import java.net.URL;
import java.net.URLClassLoader;
import java.nio.file.Files;
import java.nio.file.Path;
import java.util.ArrayList;
import java.util.List;
import java.util.TreeSet;
import java.util.regex.Matcher;
import java.util.regex.Pattern;
import javax.tools.ToolProvider;

/** Makes one program of README.md's examples and runs it: what they say that a call answers is what it answers. */
public final class ReadmeTest {
    private static final Pattern MADE = Pattern.compile("ReplayHouse \\w+ = new ReplayHouse\\(\\);");
    private static final Pattern ANSWERED =
            Pattern.compile("(?:(?:int|boolean) (\\w+) = )?(.*\\));\\s+// (-?\\d+|true|false|throws (\\w+)): .+");

    private final List<String> members = new ArrayList<>();
    private final List<String> lines = new ArrayList<>();
    private final TreeSet<String> notUsed = new TreeSet<>();

    public static void main(String[] args) throws Exception {
        ReadmeTest test = new ReadmeTest();
        test.read(Files.readAllLines(Path.of("README.md")));
        Check.same("calls that no example uses: " + test.notUsed, test.notUsed.size(), 0);
        test.run();
        testsAreNamed();
        Check.close("ReadmeTest");
    }

    private ReadmeTest() {
        for (Method m : ReplayHouse.class.getDeclaredMethods()) {
            if (Modifier.isPublic(m.getModifiers())) {
                notUsed.add(m.getName());
            }
        }
    }

    private void read(List<String> page) {
        boolean isExample = false;
        boolean isMember = false;
        for (int i = 0; i < page.size(); i++) {
            String line = page.get(i);
            if (line.startsWith("```")) {
                isExample = line.equals("```java");
                isMember = isExample && page.get(i + 1).startsWith("static ");
            } else if (isMember) {
                members.add(line);
            } else if (isExample) {
                lines.add(statement("README.md, line " + (i + 1), line));
            }
        }
    }

    /** The line of an example as a line that looks at the answer; every line but one that makes a house has one. */
    private String statement(String where, String line) {
        if (MADE.matcher(line).matches()) {
            return line;
        }
        Matcher found = ANSWERED.matcher(line);
        Check.same(where + " says what is answered: " + line, found.matches(), true);
        if (!found.matches()) {
            return "";
        }
        String call = found.group(2);
        notUsed.removeIf(name -> call.startsWith("house." + name + "("));
        String named = "\"" + where + ": " + call.replace("\"", "'") + "\"";
        if (found.group(4) != null) {
            return "Check.fails(" + named + ", " + found.group(4) + ".class, () -> " + call + ");";
        }
        if (found.group(1) == null) {
            return "Check.same(" + named + ", " + call + ", " + found.group(3) + ");";
        }
        return "var " + found.group(1) + " = " + call + "; Check.same(" + named + ", " + found.group(1) + ", "
                + found.group(3) + ");";
    }

    private void run() throws Exception {
        Path room = Files.createTempDirectory("readme");
        Path source = room.resolve("Examples.java");
        List<String> program = new ArrayList<>();
        program.add("import java.util.*; final class Examples {");
        program.addAll(members);
        program.add("static void run() {");
        program.addAll(lines);
        program.add("} }");
        Files.write(source, program);
        int code = ToolProvider.getSystemJavaCompiler().run(null, null, null, "-classpath",
                System.getProperty("java.class.path"), "-d", room.toString(), source.toString());
        Check.same("the examples can be compiled", code, 0);
        if (code == 0) {
            runIn(room);
        }
        Files.deleteIfExists(room.resolve("Examples.class"));
        Files.deleteIfExists(source);
        Files.deleteIfExists(room);
    }

    /** The examples come by a loader of their own, for which Check and its methods must be public. */
    private static void runIn(Path room) throws Exception {
        try (URLClassLoader loader = new URLClassLoader(new URL[] {room.toUri().toURL()})) {
            Method run = loader.loadClass("Examples").getDeclaredMethod("run");
            run.setAccessible(true);
            run.invoke(null);
        }
    }

    private static void testsAreNamed() throws IOException {
        String page = Files.readString(Path.of("README.md"));
        try (var files = Files.list(Path.of("src/test/java"))) {
            files.map(file -> file.getFileName().toString().replace(".java", "")).filter(name -> name.endsWith("Test"))
                    .forEach(name -> Check.same("README.md names " + name, page.contains("| " + name + " |"), true));
        }
    }
}
