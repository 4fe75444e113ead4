import java.io.IOException;
import java.nio.file.Files;
import java.nio.file.Path;
import java.util.List;
import java.util.regex.Matcher;
import java.util.regex.Pattern;

/** Rules of LANGUAGE.md that can be seen in the text of the class. */
public final class LanguageTest {
    private static final String[] FORBIDDEN = {"->", "::", "\\btry\\b", "\\bcatch\\b", "\\bfinally\\b",
        "\\bsynchronized\\b", "\\bassert\\b", "\\binstanceof\\b", "@", "\\bpublic static\\b", "\\bprotected\\b",
        "\\bwhile \\(true\\)", "for \\(;;\\)", "Exact\\(", "System\\.(?!arraycopy)", "Math\\.(?!min|max)",
        "Integer\\.(?!bitCount)", "Arrays\\.(?!fill|copyOf)", "\\bpackage\\b", "Thread", "Random", "\\bnew int\\[\\] \\{"};
    private static final Pattern THROW = Pattern.compile("throw new (\\w+)\\(\"[ -~]+\"\\);");
    private static final List<String> THROWN = List.of("IllegalStateException", "IllegalArgumentException",
        "IndexOutOfBoundsException", "ArithmeticException", "UnsupportedOperationException",
        "NoSuchElementException");
    private static final Pattern METHOD = Pattern.compile(
        "^ {4}(?: {4})?(?! )(?!(if|for|while|return|switch)\\b)[\\w\\[\\] ]+\\(.*");

    private static int wrong = 0;

    private LanguageTest() {
    }

    private static void expect(boolean right, int line, String what) {
        if (!right) {
            wrong++;
            System.out.println("line " + line + ": " + what);
        }
    }

    private static String code(String line) {
        String text = line.replaceAll("\"[^\"]*\"", "\"\"");
        int comment = text.indexOf("//");
        text = comment >= 0 ? text.substring(0, comment) : text;
        String bare = text.trim();
        return bare.startsWith("*") || bare.startsWith("/**") ? "" : text;
    }

    private static void checkLine(int number, String line) {
        expect(line.chars().allMatch(sign -> sign >= 32 && sign < 127), number, "a sign beyond 126");
        expect(line.length() <= 120, number, "more than 120 signs");
        String code = code(line);
        for (String pattern : FORBIDDEN) {
            expect(!Pattern.compile(pattern).matcher(code).find(), number, "has " + pattern);
        }
        if (code.contains("import ")) {
            expect(code.equals("import java.util.Arrays;") || code.equals("import java.util.NoSuchElementException;"),
                number, "an import");
        }
        if (code.contains("throw ")) {
            Matcher matcher = THROW.matcher(line.trim());
            expect(matcher.matches() && THROWN.contains(matcher.group(1)), number, "a throw");
        }
        if (code.contains(" static ") && code.contains("=") && !code.contains("(")) {
            expect(code.contains(" static final "), number, "a static field that is not final");
        }
    }

    /** Methods are told by their indent: four signs in the class itself, eight in those inside it. */
    private static void checkMethods(List<String> lines) {
        int start = -1;
        int classes = 0;
        for (int i = 0; i < lines.size(); i++) {
            String line = lines.get(i);
            classes += line.matches(".*\\bclass \\w+.*\\{") ? 1 : 0;
            if (METHOD.matcher(line).matches() && !line.endsWith(";")) {
                start = i;
                int depth = line.indexOf('(');
                int parameters = line.substring(depth).split(",").length;
                expect(parameters <= 7, i + 1, "more than seven parameters");
            }
            boolean closes = line.equals("    }") || line.equals("        }");
            if (start >= 0 && closes && line.indexOf('}') == lines.get(start).length()
                    - lines.get(start).stripLeading().length()) {
                expect(i - start < 60, start + 1, "more than sixty lines");
                start = -1;
            }
        }
        expect(classes <= 12, 1, "more than twelve classes");
    }

    public static void main(String[] args) throws IOException {
        Path path = Path.of(args.length > 0 ? args[0] : "src/main/java/PresheafHouse.java");
        List<String> lines = Files.readAllLines(path);
        for (int i = 0; i < lines.size(); i++) {
            checkLine(i + 1, lines.get(i));
        }
        checkMethods(lines);
        System.out.println(wrong == 0 ? "the text keeps to the rules" : wrong + " lines break rules");
        if (wrong != 0) {
            System.exit(1);
        }
    }
}
