import java.io.ByteArrayOutputStream;
import java.io.IOException;
import java.io.PrintStream;
import java.lang.reflect.Method;
import java.net.URL;
import java.net.URLClassLoader;
import java.nio.charset.StandardCharsets;
import java.nio.file.Files;
import java.nio.file.Path;
import java.util.ArrayList;
import java.util.Comparator;
import java.util.List;
import java.util.Set;
import java.util.TreeSet;
import java.util.regex.Matcher;
import java.util.regex.Pattern;
import java.util.stream.Stream;
import javax.tools.JavaCompiler;
import javax.tools.ToolProvider;

/** README.md holds: its example prints what it says, its table names every call, its command runs every test. */
public final class ReadmeTest {
    private static final Checks checks = new Checks();

    public static void main(String[] args) throws Exception {
        String page = Files.readString(Path.of("README.md"));
        example(page);
        table(page);
        command(page);
        checks.end();
    }

    // ---- the example ----

    private static void example(String page) throws Exception {
        List<String> blocks = all(page, "(?s)```java\n(.*?)```");
        checks.same("examples", 1, blocks.size());
        for (String block : blocks) {
            List<String> due = all(block, "(?m)^ *show\\(.*\\); *// (\\S+?):? .*$");
            checks.same("each line that shows something says what", all(block, "(?m)^ *(show)\\(").size(), due.size());
            List<String> printed = run(block);
            checks.same("lines that the example prints", due.size(), printed.size());
            for (int i = 0; i < Math.min(due.size(), printed.size()); i++) {
                checks.is("line " + (i + 1) + " of the example prints " + printed.get(i) + " and says " + due.get(i), true,
                    due.get(i).equals(printed.get(i)));
            }
        }
    }

    private static List<String> run(String block) throws Exception {
        Path room = Files.createTempDirectory("readme");
        PrintStream out = System.out;
        ByteArrayOutputStream printed = new ByteArrayOutputStream();
        try {
            compile(room, block);
            try (URLClassLoader loader = new URLClassLoader(new URL[] {room.toUri().toURL()})) {
                Method main = loader.loadClass("Example").getMethod("main", String[].class);
                System.setOut(new PrintStream(printed, true, StandardCharsets.UTF_8));
                main.invoke(null, (Object) new String[0]);
            }
        } finally {
            System.setOut(out);
            remove(room);
        }
        return printed.toString(StandardCharsets.UTF_8).lines().toList();
    }

    private static void compile(Path room, String block) throws IOException {
        Path file = room.resolve("Example.java");
        Files.writeString(file, block);
        JavaCompiler javac = ToolProvider.getSystemJavaCompiler();
        int exit = javac.run(null, null, null, "-classpath", System.getProperty("java.class.path"), "-d", room.toString(),
            file.toString());
        if (exit != 0) {
            throw new AssertionError("the example of README.md does not compile");
        }
    }

    private static void remove(Path room) throws IOException {
        try (Stream<Path> files = Files.walk(room)) {
            for (Path each : files.sorted(Comparator.reverseOrder()).toList()) {
                Files.delete(each);
            }
        }
    }

    // ---- the table ----

    /** The document's promises from 2 on are a call each, so a row's calls are those of its promises in their order. */
    private static void table(String page) throws IOException {
        String doc = Files.readString(Path.of("../shared/DOC.md"));
        int next = 2;
        Matcher row = Pattern.compile("(?m)^\\| (`.*`) \\| (\\d+) to (\\d+) \\|").matcher(page);
        while (row.find()) {
            List<String> calls = all(row.group(1), "`(\\w+)`");
            checks.same("first promise of the row of " + row.group(1), next, Integer.parseInt(row.group(2)));
            for (String call : calls) {
                List<String> heading = all(doc, "(?m)^## Promise " + next + ": (\\w+)$");
                checks.is(call + " is promise " + next, true, heading.equals(List.of(call)));
                next++;
            }
            checks.same("last promise of the row of " + row.group(1), next - 1, Integer.parseInt(row.group(3)));
        }
        checks.same("promises in the table", all(doc, "(?m)^## Promise (\\d+):").size(), next - 1);
    }

    // ---- the command ----

    private static void command(String page) throws IOException {
        int at = page.indexOf("## Running its tests");
        List<String> commands = all(page.substring(Math.max(at, 0)), "(?m)^    (\\S.*)$");
        checks.is("the command is " + commands, true, at >= 0 && commands.equals(List.of("bash .ci/run")));
        checks.is(".ci/run can be run", true, Files.isExecutable(Path.of(".ci/run")));
        String script = Files.readString(Path.of(".ci/run"));
        checks.is("it runs every test of the document's", true, script.contains("for file in ../shared/tests/*.java; do"));
        checks.is("it runs every test of the project's", true, script.contains("for file in src/test/java/*Test.java; do"));
        Set<String> there = new TreeSet<>();
        try (Stream<Path> files = Files.list(Path.of("src/test/java"))) {
            for (Path each : files.toList()) {
                String name = each.getFileName().toString().replace(".java", "");
                boolean runs = Files.readString(each).contains("static void main(");
                checks.is(name + " is run if it has a main", true, runs == name.endsWith("Test"));
                if (runs) {
                    there.add(name);
                }
            }
        }
        checks.is("the tests that are told are " + there, true,
            there.equals(new TreeSet<>(all(page, "(?m)^- `(\\w+Test)`:"))));
    }

    private static List<String> all(String text, String pattern) {
        List<String> found = new ArrayList<>();
        Matcher m = Pattern.compile(pattern).matcher(text);
        while (m.find()) {
            found.add(m.group(1));
        }
        return found;
    }
}
