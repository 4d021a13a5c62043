import java.io.IOException;
import java.nio.file.DirectoryStream;
import java.nio.file.Files;
import java.nio.file.Path;
import java.util.Map;
import java.util.regex.Matcher;
import java.util.regex.Pattern;

/** That every word of "What it is", of "Terms" and of the promises stands in a sentence that some test names. */
public final class DocumentTest {
    private static final Pattern NAMED = Pattern.compile("\\.sentence\\(\\s*\"([^\"]*)\",\\s*\"([^\"]*)\",");

    public static void main(String[] args) throws IOException {
        Expect expect = new Expect();
        String tests = allTests();
        expect.equal("sections", Document.sections().size(), 21);
        for (Map.Entry<String, String> section : Document.sections().entrySet()) {
            String left = unnamed(section.getKey(), section.getValue(), tests);
            expect.same(section.getKey() + ": words that no test names", left, "");
        }
        expect.end();
    }

    private static String allTests() throws IOException {
        StringBuilder all = new StringBuilder();
        try (DirectoryStream<Path> files = Files.newDirectoryStream(Path.of("src/test/java"), "*Test.java")) {
            for (Path file : files) {
                all.append(Files.readString(file));
            }
        }
        // A long sentence is written in several pieces.
        return all.toString().replaceAll("\"\\s*\\+\\s*\"", "");
    }

    private static String unnamed(String title, String text, String tests) {
        char[] left = text.toCharArray();
        Matcher named = NAMED.matcher(tests);
        while (named.find()) {
            int at = named.group(1).equals(title) ? text.indexOf(named.group(2)) : -1;
            for (int i = 0; at >= 0 && i < named.group(2).length(); i++) {
                left[at + i] = ' ';
            }
        }
        return new String(left).replaceAll("[^A-Za-z0-9]+", " ").trim();
    }
}
