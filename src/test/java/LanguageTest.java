import java.io.IOException;
import java.nio.charset.StandardCharsets;
import java.nio.file.Files;
import java.nio.file.Path;
import java.util.Set;
import java.util.TreeSet;
import java.util.regex.Matcher;
import java.util.regex.Pattern;

/** Rules of LANGUAGE.md that show in the words of the program. */
final class LanguageTest {
    private static final Check CHECK = new Check("LanguageTest");
    private static final Path PROGRAM = Path.of("src", "main", "java", "GlowwormGrid.java");
    private static final Set<String> IMPORTS = Set.of("java.util.Arrays", "java.util.ArrayList", "java.util.List",
            "java.util.Iterator", "java.util.NoSuchElementException");
    private static final Set<String> EXCEPTIONS = Set.of("IllegalStateException", "IllegalArgumentException",
            "IndexOutOfBoundsException", "ArithmeticException", "UnsupportedOperationException",
            "NoSuchElementException", "RuntimeException");
    private static final Set<String> LIBRARY = Set.of("Integer.bitCount", "Math.min", "Math.max", "Math.abs",
            "System.arraycopy", "Arrays.fill");

    private LanguageTest() {
    }

    public static void main(String[] arguments) throws IOException {
        String program = Files.readString(PROGRAM, StandardCharsets.US_ASCII);
        String code = withoutTexts(program);
        words(code);
        imports(code);
        exceptions(program);
        library(code);
        arrays(code);
        CHECK.end();
    }

    /** Without comments, and with nothing in its texts and characters. */
    private static String withoutTexts(String program) {
        return program.replaceAll("(?s)/\\*.*?\\*/", "").replaceAll("\"[^\"\n]*\"", "\"\"")
                .replaceAll("'[^'\n]+'", "' '").replaceAll("//[^\n]*", "");
    }

    private static void words(String code) {
        String[] banned = {"\\bpackage\\b", "\\bfinally\\b", "\\btry\\b", "\\bcatch\\b", "\\bsynchronized\\b",
                "\\bassert\\b", "\\bstatic \\{", "->", "::", "\\bequals\\b", "\\bhashCode\\b", "\\btoString\\b",
                "\\bprotected\\b", "\\bThread\\b", "\\bObject\\b", "\\bvar\\b", "\\bgoto\\b", "\" \\+", "\\+ \""};
        for (String word : banned) {
            CHECK.no("the code has " + word, Pattern.compile(word).matcher(code).find());
        }
    }

    private static void imports(String code) {
        Matcher matcher = Pattern.compile("import ([^;]+);").matcher(code);
        while (matcher.find()) {
            CHECK.yes("import " + matcher.group(1), IMPORTS.contains(matcher.group(1)));
        }
    }

    private static void exceptions(String program) {
        Matcher matcher = Pattern.compile("\\bthrow\\b([^;]*);").matcher(program);
        Pattern due = Pattern.compile(" new (\\w+)\\((\"[^\"]*\")?\\)");
        while (matcher.find()) {
            Matcher thrown = due.matcher(matcher.group(1));
            CHECK.yes("throw" + matcher.group(1), thrown.matches() && EXCEPTIONS.contains(thrown.group(1)));
        }
    }

    private static void library(String code) {
        Matcher matcher = Pattern.compile("\\b(?:Integer|Long|Math|System|Arrays|String|Character)\\.\\w+").matcher(code);
        Set<String> used = new TreeSet<>();
        while (matcher.find()) {
            used.add(matcher.group());
        }
        for (String call : used) {
            CHECK.yes("library " + call, LIBRARY.contains(call));
        }
    }

    /** Calls make no objects: new stands in fields, in constructors and behind throw alone. */
    private static void arrays(String code) {
        Matcher matcher = Pattern.compile("(?m)^.*\\bnew \\w+.*$").matcher(code);
        while (matcher.find()) {
            String line = matcher.group().trim();
            boolean isDue = line.startsWith("throw new") || line.matches("(private )?final [^(]* = new .*;")
                    || line.equals("boards[index] = new Board();");
            CHECK.yes("new in: " + line, isDue);
        }
    }
}
