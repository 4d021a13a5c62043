import java.io.IOException;
import java.lang.reflect.Field;
import java.lang.reflect.Modifier;
import java.nio.file.DirectoryStream;
import java.nio.file.Files;
import java.nio.file.Path;
import java.util.ArrayList;
import java.util.List;
import java.util.regex.Matcher;
import java.util.regex.Pattern;

/** What of LANGUAGE.md can be seen in the program's text, by the numbers of its rules; FaceTest has rule 1. */
public final class LanguageTest {
    private static final Path PLACE = Path.of("src/main/java/SixWayGas.java");

    /** A method's or constructor's head: its parameters, and the brace behind them. */
    private static final Pattern HEAD = Pattern.compile(
            "(?m)^ +(?:(?:public|private|protected|static|final) )*(?:[\\w\\[\\]]+ )?(\\w+)\\(([^()]*)\\)[^;{}]*\\{$");

    public static void main(String[] args) throws IOException {
        Expect expect = new Expect();
        expect.same("the program's files", mainFiles().toString(), "[" + PLACE + "]");
        String text = Files.readString(PLACE);
        // Neither comments nor what is said in texts are Java; lines are kept, as methods are measured by them.
        String code = text.replaceAll("(?s)/\\*(?:(?!\\*/)[^\\n])*\\*/", "").replaceAll("(?m)^ */?\\*.*$", "")
                .replaceAll("//.*", "").replaceAll("\"[^\"\\n]*\"", "\"\"");
        words(expect, code);
        library(expect, code);
        exceptions(expect, code);
        methods(expect, code);
        classes(expect);
        expect.end();
    }

    private static List<Path> mainFiles() throws IOException {
        List<Path> all = new ArrayList<>();
        try (DirectoryStream<Path> files = Files.newDirectoryStream(PLACE.getParent())) {
            for (Path file : files) {
                all.add(file);
            }
        }
        return all;
    }

    private static void none(Expect expect, String rule, String pattern, String code) {
        Matcher found = Pattern.compile(pattern).matcher(code);
        expect.same(rule, found.find() ? found.group() : "none", "none");
    }

    private static void words(Expect expect, String code) {
        none(expect, "no package line", "(?m)^ *package\\b", code);
        none(expect, "2: no lambda or method reference", "->|::", code);
        none(expect, "3: one dimension, or two of numbers", "\\w\\[\\]\\[\\]\\[\\]", code);
        none(expect, "5: no static initialiser block", "static *\\{", code);
        none(expect, "6: none of these words", "\\b(?:finally|synchronized|assert|hashCode|toString|getMessage)\\b", code);
        none(expect, "10: no joining of texts by +", "\" *\\+|\\+ *\"", code);
        none(expect, "13: no thread, clock, chance or environment", "\\b(?:Thread|Random|Runtime|nanoTime|getenv)\\b", code);
    }

    private static void library(Expect expect, String code) {
        none(expect, "4: imports", "(?m)^import (?!java\\.util\\.(?:Arrays|ArrayList|List|Iterator|NoSuchElementException);).*",
                code);
        none(expect, "4: System", "\\bSystem\\.(?!arraycopy\\()\\w+", code);
        none(expect, "4: Arrays", "\\bArrays\\.(?!(?:copyOf|copyOfRange|fill)\\()\\w+", code);
        none(expect, "4: Math, Integer and Long", "\\b(?:Math|Integer|Long)\\.\\w+Exact\\b", code);
        none(expect, "4: other names of the library",
                "\\b(?:Object|Class|Character|Double|Float|Boolean|Map|HashMap|Set|Optional|Objects|Collections|Stream)\\b",
                code);
    }

    private static void exceptions(Expect expect, String code) {
        String named = "(?:IllegalState|IllegalArgument|IndexOutOfBounds|Arithmetic|UnsupportedOperation|NoSuchElement|Runtime)";
        none(expect, "6: throw", "\\bthrow (?!new " + named + "Exception\\((?:\"\")?\\);).*", code);
    }

    private static void methods(Expect expect, String code) {
        Matcher head = HEAD.matcher(code);
        int methods = 0;
        while (head.find()) {
            String name = head.group(1);
            if (name.matches("if|for|while|switch|catch")) {
                continue;
            }
            methods++;
            String parameters = head.group(2).trim();
            expect.equal("11: parameters of " + name, parameters.split(",").length <= 7, true);
            String body = body(code, head.end());
            expect.equal("11: lines of " + name, body.split("\n", -1).length + 1 <= 60, true);
            boolean constructor = Character.isUpperCase(name.charAt(0));
            expect.equal("6: a throw in the constructor " + name, constructor && body.contains("throw "), false);
            expect.equal("6: a throw and a try in " + name, body.contains("throw ") && body.contains("try {"), false);
        }
        expect.equal("methods were found", methods > 40, true);
    }

    /** Up to the brace that closes the one before a place. */
    private static String body(String code, int from) {
        int open = 1;
        int at = from;
        while (open > 0 && at < code.length()) {
            open += code.charAt(at) == '{' ? 1 : code.charAt(at) == '}' ? -1 : 0;
            at++;
        }
        return code.substring(from, at);
    }

    private static void classes(Expect expect) {
        List<Class<?>> all = new ArrayList<>(List.of(SixWayGas.class.getDeclaredClasses()));
        all.add(SixWayGas.class);
        expect.equal("11: classes", all.size() <= 12, true);
        for (Class<?> one : all) {
            int fields = 0;
            for (Field field : one.getDeclaredFields()) {
                boolean isStatic = Modifier.isStatic(field.getModifiers());
                fields += isStatic ? 0 : 1;
                expect.equal("5: " + field, !isStatic || Modifier.isFinal(field.getModifiers()), true);
            }
            expect.equal("11: fields of " + one, fields <= 20, true);
        }
    }
}
