import java.io.IOException;
import java.nio.charset.StandardCharsets;
import java.nio.file.Files;
import java.nio.file.Path;
import java.util.Arrays;
import java.util.LinkedHashMap;
import java.util.Map;

/** The document's sentences: a test names the one that it holds, and none of them may be left without a test. */
final class Document {
    private static final Map<String, String> WORDS = new LinkedHashMap<>();
    private static final Map<String, boolean[]> HELD = new LinkedHashMap<>();
    private static int checksAhead = 0;
    private static String latest = "";

    private Document() {
    }

    /** Without the document at hand (it is no part of the project) the tests run, but no sentence is looked for. */
    static void open() throws IOException {
        Path path = Path.of(System.getProperty("project.root", "."), "../shared/DOC.md");
        if (!Files.isReadable(path)) {
            System.out.println("no document at " + path + ": its sentences are not looked for");
            return;
        }
        String title = "";
        for (String line : Files.readString(path, StandardCharsets.UTF_8).split("\n")) {
            if (line.startsWith("## ")) {
                title = line.substring(3).replaceAll(":.*", "").trim();
            } else if (!line.startsWith("```")) {
                WORDS.merge(title, line, (a, b) -> a + " " + b);
            }
        }
        WORDS.replaceAll((name, words) -> plain(words));
        for (Map.Entry<String, String> section : WORDS.entrySet()) {
            HELD.put(section.getKey(), new boolean[section.getValue().length()]);
        }
    }

    /** The signature ahead of a promise and the marks between the Terms' parts are no sentences. */
    private static String plain(String words) {
        return words.replaceAll("\\s+", " ").replaceAll("^ `[^`]*`: ", "").replaceAll("==== \\d\\. ?", "").trim();
    }

    /** The checks from here on hold these words of a section. */
    static void says(String section, String words) {
        mustHaveChecks();
        checksAhead = Checks.made();
        latest = section + ", \"" + words + "\"";
        Checks.about(latest);
        String text = WORDS.get(section);
        if (WORDS.isEmpty()) {
            return;
        }
        int at = text == null ? -1 : text.indexOf(words);
        Checks.due("is it in the document", at >= 0, true);
        checksAhead = Checks.made();
        if (at >= 0) {
            Arrays.fill(HELD.get(section), at, at + words.length(), true);
        }
    }

    private static void mustHaveChecks() {
        if (!latest.isEmpty() && Checks.made() == checksAhead) {
            Checks.due("is it checked", false, true);
        }
    }

    /** No word of the Terms and of the promises is left. */
    static void mustBeHeld() {
        mustHaveChecks();
        Checks.about("");
        for (Map.Entry<String, String> section : WORDS.entrySet()) {
            if (section.getKey().equals("Terms") || section.getKey().startsWith("Promise ")) {
                Checks.due(section.getKey() + " has words without a test: " + left(section.getKey()),
                    left(section.getKey()).isEmpty(), true);
            }
        }
    }

    private static String left(String section) {
        StringBuilder left = new StringBuilder();
        String words = WORDS.get(section);
        boolean[] held = HELD.get(section);
        for (int k = 0; k < held.length; k++) {
            left.append(held[k] ? '|' : words.charAt(k));
        }
        return left.toString().replaceAll("[^A-Za-z0-9]*\\|[^A-Za-z0-9]*", "|").replaceAll("\\|+", " | ")
            .replaceAll("^[ |]+|[ |]+$", "");
    }
}
