import java.io.IOException;
import java.nio.file.Files;
import java.nio.file.Path;
import java.util.LinkedHashMap;
import java.util.Map;
import java.util.regex.Matcher;
import java.util.regex.Pattern;

/** The document's sentences, and which of them have had a test of their own. */
final class Sentences {
    private static final int MOST_PRINTED = 40;

    private final Checks checks = new Checks();
    /** By section ("What it is", "Terms 1" to "Terms 3", "Promise 1" to "Promise 51"), its words with single blanks. */
    private final Map<String, String> sections = new LinkedHashMap<>();
    private final Map<String, boolean[]> tested = new LinkedHashMap<>();
    private String now = "";
    private int answers;
    private int unquoted;

    Sentences() throws IOException {
        String doc = Files.readString(Path.of("../shared/DOC.md"));
        Matcher part = Pattern.compile("(?m)^## (.*)$").matcher(doc);
        int from = 0;
        String name = "";
        while (part.find()) {
            keep(name, doc.substring(from, part.start()));
            name = part.group(1);
            from = part.end();
        }
        keep(name, doc.substring(from));
    }

    private void keep(String heading, String body) {
        String text = body.replaceAll("```\\w*", " ").replaceAll("\\s+", " ").trim();
        if (heading.equals("What it is")) {
            // what stands ahead of it only names what the terms tell
            add(heading, text.substring(Math.max(0, text.indexOf("An object"))));
        } else if (heading.equals("Terms")) {
            String[] parts = text.split("==== \\d\\.");
            for (int i = 0; i < parts.length; i++) {
                add("Terms " + (i + 1), parts[i]);
            }
        } else if (heading.startsWith("Promise ")) {
            add(heading.substring(0, heading.indexOf(':')), text.replaceFirst("^`[^`]*`: ", ""));
        }
    }

    private void add(String section, String text) {
        sections.put(section, text);
        tested.put(section, new boolean[text.length()]);
    }

    Checks checks() {
        return checks;
    }

    /** What the present test calls its answers: the section and the sentence come first. */
    String naming(String call) {
        answers++;
        return now + " | " + call;
    }

    /** Runs the test of a sentence, which must stand in the document as it is told here. */
    void run(String section, String sentence, Runnable test) {
        now = section + ": " + sentence;
        String text = sections.getOrDefault(section, "");
        int at = text.indexOf(sentence);
        checks.is(now + " | stands in the document", true, at >= 0);
        for (int i = 0; at >= 0 && i < sentence.length(); i++) {
            tested.get(section)[at + i] = true;
        }
        answers = 0;
        try {
            test.run();
        } catch (RuntimeException e) {
            checks.is(now + " | threw " + e, false, true);
        }
        checks.is(now + " | has answers", true, answers > 0);
    }

    /** All of the terms and promises must have been quoted, but for what stands between the quotes. */
    void end() {
        checks.is("what it is, three parts of terms and 51 promises", true, sections.size() == 55);
        for (String section : sections.keySet()) {
            String text = sections.get(section);
            boolean[] done = tested.get(section);
            for (int i = 0; i < text.length(); i++) {
                if (!done[i] && Character.isLetterOrDigit(text.charAt(i))) {
                    int to = i;
                    while (to < text.length() && !done[to]) {
                        to++;
                    }
                    String rest = text.substring(i, to).trim();
                    checks.is(section + " has no test of: " + rest, true, isJoint(rest));
                    i = to;
                }
            }
        }
        checks.end();
    }

    private static boolean isJoint(String rest) {
        return rest.matches("(or|and|so below)[;,.) ]*");
    }
}
