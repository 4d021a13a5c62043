import java.io.IOException;
import java.io.UncheckedIOException;
import java.nio.file.Files;
import java.nio.file.Path;
import java.util.ArrayList;
import java.util.LinkedHashMap;
import java.util.List;
import java.util.Map;

/**
 * The document's sections that say what holds: "What it is", "Terms" and "Promise 1" .. "Promise 19", each as one line
 * of text; and the lines of "The public face".
 */
final class Document {
    private static final Path PLACE = Path.of("../shared/DOC.md");

    private Document() {
    }

    static boolean says(String section, String words) {
        return sections().getOrDefault(section, "").contains(words);
    }

    static Map<String, String> sections() {
        Map<String, String> sections = new LinkedHashMap<>();
        for (Map.Entry<String, String> part : parts().entrySet()) {
            String title = part.getKey();
            if (title.equals("What it is") || title.equals("Terms") || title.startsWith("Promise ")) {
                sections.put(title, oneLine(part.getValue()));
            }
        }
        return sections;
    }

    /** The class's head, its members, and the brace at the end. */
    static List<String> face() {
        List<String> lines = new ArrayList<>();
        for (String line : parts().getOrDefault("The public face", "").split("\n")) {
            if (!line.isBlank() && !line.startsWith("```")) {
                lines.add(line.trim());
            }
        }
        return lines;
    }

    /** What stands below each title. */
    private static Map<String, String> parts() {
        Map<String, String> parts = new LinkedHashMap<>();
        for (String part : text().split("(?m)^## ")) {
            int endOfTitle = part.indexOf('\n');
            parts.put(part.substring(0, endOfTitle).split(":")[0].trim(), part.substring(endOfTitle));
        }
        return parts;
    }

    private static String text() {
        try {
            return Files.readString(PLACE);
        } catch (IOException e) {
            throw new UncheckedIOException(e);
        }
    }

    /** Without the fences round indented text, and without the call's head at a promise's beginning. */
    private static String oneLine(String part) {
        String text = part.replaceAll("(?m)^```.*$", "").replaceAll("\\s+", " ").trim();
        return text.startsWith("`") ? text.substring(text.indexOf("`:") + 2).trim() : text;
    }
}
