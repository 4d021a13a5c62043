import java.io.IOException;
import java.io.UncheckedIOException;
import java.nio.file.Files;
import java.nio.file.Path;
import java.util.LinkedHashMap;
import java.util.Map;

/** The document's sections "Terms" and "Promise 1" .. "Promise 19", each as one line of text. */
final class Document {
    private static final Path PLACE = Path.of("../shared/DOC.md");

    private Document() {
    }

    static boolean says(String section, String words) {
        return sections().getOrDefault(section, "").contains(words);
    }

    static Map<String, String> sections() {
        Map<String, String> sections = new LinkedHashMap<>();
        for (String part : text().split("(?m)^## ")) {
            int endOfTitle = part.indexOf('\n');
            String title = part.substring(0, endOfTitle).split(":")[0].trim();
            if (title.equals("Terms") || title.startsWith("Promise ")) {
                sections.put(title, oneLine(part.substring(endOfTitle)));
            }
        }
        return sections;
    }

    private static String text() {
        try {
            return Files.readString(PLACE);
        } catch (IOException e) {
            throw new UncheckedIOException(e);
        }
    }

    /** Without the fences round indented text, and without the call's head at a promise's beginning. */
    private static String oneLine(String part) {
        String text = part.replaceAll("(?m)^```.*$", "").replaceAll("\\s+", " ").trim();
        return text.startsWith("`") ? text.substring(text.indexOf("`:") + 2).trim() : text;
    }
}
