import java.io.IOException;
import java.lang.reflect.Field;
import java.lang.reflect.Method;
import java.lang.reflect.Modifier;
import java.nio.file.Files;
import java.nio.file.Path;
import java.util.HashMap;
import java.util.HashSet;
import java.util.List;
import java.util.Map;
import java.util.Set;
import java.util.TreeSet;
import java.util.regex.Matcher;
import java.util.regex.Pattern;

/** The face is the document's and nothing else, and the file keeps to those rules of LANGUAGE.md that can be looked up. */
public final class FaceTest {
    private static final Checks checks = new Checks();

    public static void main(String[] args) throws IOException {
        face();
        members();
        source();
        recursion();
        checks.end();
    }

    private static void face() throws IOException {
        Set<String> want = new TreeSet<>();
        String doc = Files.readString(Path.of("../shared/DOC.md"));
        Matcher m = Pattern.compile("(?m)^    public (\\w+) (\\w+)\\((.*?)\\)(?: throws (.*))?;$").matcher(doc);
        while (m.find()) {
            String types = m.group(3).replaceAll(" \\w+(,|$)", "$1").replace(" ", "");
            String thrown = m.group(4) == null ? "" : m.group(4).replace(" ", "");
            want.add(m.group(1) + " " + m.group(2) + "(" + types + ") " + thrown);
        }
        Set<String> got = new TreeSet<>();
        for (Method each : YieldedHours.class.getDeclaredMethods()) {
            if (Modifier.isPublic(each.getModifiers())) {
                got.add(each.getReturnType() + " " + each.getName() + "(" + names(each.getParameterTypes()) + ") "
                    + names(each.getExceptionTypes()));
            }
        }
        checks.is("fifty methods are told", true, want.size() == 50);
        checks.is("the face " + got + " is the document's " + want, true, want.equals(got));
        checks.is("one constructor", true, YieldedHours.class.getDeclaredConstructors().length == 1);
        checks.is("final", true, Modifier.isFinal(YieldedHours.class.getModifiers()));
    }

    private static String names(Class<?>[] types) {
        StringBuilder s = new StringBuilder();
        for (Class<?> t : types) {
            s.append(s.length() > 0 ? "," : "").append(t.getSimpleName());
        }
        return s.toString();
    }

    private static void members() {
        Set<String> publicNames = new HashSet<>();
        for (Method m : YieldedHours.class.getMethods()) {
            if (m.getDeclaringClass() == YieldedHours.class) {
                publicNames.add(m.getName());
            }
        }
        for (Method m : YieldedHours.class.getDeclaredMethods()) {
            boolean isPrivate = Modifier.isPrivate(m.getModifiers());
            checks.is(m + " is public or private", true, isPrivate || Modifier.isPublic(m.getModifiers()));
            checks.is(m + " has no public name", true, !isPrivate || !publicNames.contains(m.getName()));
        }
        Set<String> fields = new HashSet<>();
        for (Field f : YieldedHours.class.getDeclaredFields()) {
            int how = f.getModifiers();
            boolean isPublic = Modifier.isPublic(how);
            checks.is(f + " is private or NONE", true, isPublic ? fields.add(f.getName()) : Modifier.isPrivate(how));
            checks.is(f + " is no static state", true, !Modifier.isStatic(how) || Modifier.isFinal(how));
        }
        checks.is("the constants", true, fields.equals(Set.of("NONE")));
        Class<?>[] inside = YieldedHours.class.getDeclaredClasses();
        checks.is("some twelve classes", true, inside.length <= 12);
        for (Class<?> c : inside) {
            checks.is(c + " is static and not public", true, Modifier.isStatic(c.getModifiers())
                && !Modifier.isPublic(c.getModifiers()) && !Modifier.isProtected(c.getModifiers()));
            int own = 0;
            for (Field f : c.getDeclaredFields()) {
                own += Modifier.isStatic(f.getModifiers()) ? 0 : 1;
            }
            checks.is(c + " has some twenty fields", true, own <= 20);
            for (Method m : c.getDeclaredMethods()) {
                checks.is(m + " has no public name", true, !publicNames.contains(m.getName()));
                checks.is(m + " takes seven at most", true, m.getParameterCount() <= 7);
            }
        }
    }

    private static void source() throws IOException {
        String text = Files.readString(Path.of("src/main/java/YieldedHours.java"));
        String code = text.replaceAll("(?s)/\\*.*?\\*/", "").replaceAll("//.*", "");
        String[] never = {"\\bcatch\\b", "\\btry\\b", "\\bfinally\\b", "\\bassert\\b", "\\bsynchronized\\b", "->", "::",
            "\\bgetMessage\\b", "\\bRandom\\b", "currentTimeMillis", "nanoTime", "\\bThread\\b", "\"\\s*\\+", "\\+\\s*\"",
            "hashCode", "toString", "\\bequals\\b", "static\\s*\\{", "Exact\\(", "\\bpackage\\b", "@"};
        for (String each : never) {
            checks.is("no " + each, false, Pattern.compile(each).matcher(code).find());
        }
        Matcher thrown = Pattern.compile("throw [^;]*;").matcher(code);
        while (thrown.find()) {
            checks.is(thrown.group(), true,
                thrown.group().matches("throw new (NoSuchElementException|IllegalArgumentException)\\(\\);"));
        }
        Matcher imports = Pattern.compile("import [^;]*;").matcher(code);
        while (imports.find()) {
            checks.is(imports.group(), true, imports.group().matches("import java\\.util\\.(Arrays|NoSuchElementException);"));
        }
        checks.is("plain bytes alone", true, text.chars().allMatch(c -> c == '\n' || c >= ' ' && c <= '~'));
    }

    /** Rule 8: a method of a class inside that comes back to itself is private. */
    private static void recursion() throws IOException {
        String text = Files.readString(Path.of("src/main/java/YieldedHours.java"));
        Matcher inside = Pattern.compile("(?ms)^    private static final class (\\w+) \\{$(.*?)^    }$").matcher(text);
        int found = 0;
        while (inside.find()) {
            Map<String, String> heads = new HashMap<>();
            Map<String, Set<String>> calls = new HashMap<>();
            Matcher method = Pattern.compile("(?ms)^        ([^;={}/*]*?)\\b(\\w+)\\([^;={}]*?\\) \\{$(.*?)^        }$")
                .matcher(inside.group(2));
            while (method.find()) {
                heads.put(method.group(2), method.group(1));
                calls.put(method.group(2), callsIn(method.group(3)));
            }
            for (String each : heads.keySet()) {
                if (comesBack(each, calls)) {
                    found++;
                    checks.is(inside.group(1) + "." + each + " is private", true, heads.get(each).startsWith("private "));
                }
            }
        }
        checks.same("methods that come back to themselves", 8, found);
    }

    /** Those of its own class: on another object they would stand behind a point. */
    private static Set<String> callsIn(String body) {
        Set<String> names = new HashSet<>();
        Matcher m = Pattern.compile("(?<![.\\w])(\\w+)\\(").matcher(body);
        while (m.find()) {
            names.add(m.group(1));
        }
        return names;
    }

    private static boolean comesBack(String name, Map<String, Set<String>> calls) {
        Set<String> reached = new HashSet<>(calls.get(name));
        for (int size = 0; size < reached.size();) {
            size = reached.size();
            for (String each : List.copyOf(reached)) {
                reached.addAll(calls.getOrDefault(each, Set.of()));
            }
        }
        return reached.contains(name);
    }
}
