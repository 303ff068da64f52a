import java.nio.charset.StandardCharsets;
import java.nio.file.Files;
import java.nio.file.Path;
import java.util.Set;
import java.util.TreeSet;
import java.util.regex.Matcher;
import java.util.regex.Pattern;

/** The rules of LANGUAGE.md that a search through the text of the class shows. */
public final class LanguageTest {
    private static final Path FILE = Path.of("src/main/java/StairManners.java");

    public static void main(String[] args) throws Exception {
        byte[] bytes = Files.readAllBytes(FILE);
        for (byte b : bytes) {
            if (b != '\n' && (b < 32 || b > 126)) {
                Due.is("3: a byte of the file", b, '\n');
            }
        }
        String code = bare(new String(bytes, StandardCharsets.ISO_8859_1));
        Due.holds("the file is there", code.contains("public final class StairManners"));
        forbidden(code);
        library(code);
        made(code);
        methods(code);
        Due.finish();
    }

    /** Without comments, and with empty texts and signs. */
    private static String bare(String source) {
        String noTexts = source.replaceAll("\"[^\"\n]*\"", "\"\"").replaceAll("'.'", "' '");
        return noTexts.replaceAll("(?s)/\\*.*?\\*/", "").replaceAll("//[^\n]*", "");
    }

    private static void absent(String code, String rule, String pattern) {
        Matcher m = Pattern.compile(pattern).matcher(code);
        boolean found = m.find();
        Due.holds(rule + (found ? ": " + m.group() : ""), !found);
    }

    private static void forbidden(String code) {
        String[] words = {"throw", "throws", "try", "catch", "finally", "synchronized", "assert", "import", "package",
            "double", "float", "instanceof", "var", "yield", "volatile", "transient", "native", "protected",
            "equals", "hashCode", "toString", "super", "Object", "Thread"};
        for (String word : words) {
            absent(code, "no '" + word + "'", "\\b" + word + "\\b");
        }
        absent(code, "2: no lambda", "->");
        absent(code, "2: no method reference", "::");
        absent(code, "no annotation", "@");
        absent(code, "4: of System arraycopy alone", "\\bSystem\\b(?!\\.arraycopy)");
        absent(code, "10: no texts joined by +", "\"\"\\s*\\+|\\+\\s*\"\"");
        absent(code, "6: no texts compared by ==", "[!=]=\\s*\"\"|\"\"\\s*[!=]=");
        absent(code, "1: no open member but those of the face", "(?m)^    (int|long|boolean|String|void|final|static) ");
        absent(code, "5: no static block", "static\\s*\\{");
        absent(code, "5: no static that is not final", "static (int|long|boolean|char|byte|String)(\\[\\])? \\w+( =|;)");
    }

    /** Names called behind a point, and types named with a capital, are known ones. */
    private static void library(String code) {
        Set<String> types = new TreeSet<>();
        Matcher m = Pattern.compile("\\b[A-Z][a-z]\\w*").matcher(code);
        while (m.find()) {
            types.add(m.group());
        }
        Due.holds("4: types: " + types, types.equals(new TreeSet<>(Set.of("StairManners", "KindTree", "StepKinds",
            "PersonKinds", "Rows", "Stand", "House", "Plan", "Text", "String", "Integer", "Math"))));
        Set<String> calls = new TreeSet<>();
        m = Pattern.compile("\\b(Integer|Math)\\.\\w+").matcher(code);
        while (m.find()) {
            calls.add(m.group());
        }
        Due.holds("4: library calls: " + calls,
            Set.of("Integer.bitCount", "Math.max", "Math.min").containsAll(calls));
    }

    /** Only constructors make objects and arrays: all calls of a run share one small room. */
    private static void made(String code) {
        String owner = "";
        int makers = 0;
        for (String line : code.split("\n")) {
            Matcher m = header(line);
            if (m.find()) {
                owner = m.group(2);
            }
            if (Pattern.compile("\\bnew\\b").matcher(line).find()) {
                makers++;
                Due.holds("12: made in a constructor: " + owner + ": " + line.trim(),
                    owner.matches("(public )?(StairManners|House|Plan|Rows|Stand|Text)"));
            }
        }
        Due.holds("12: something is made", makers > 10);
    }

    /** A method's or constructor's first line: its indent, then its words. */
    private static Matcher header(String line) {
        return Pattern.compile("^( {4}| {8})(?!for |if |switch |while |do |\\}|case |return )(\\w[^(]*)\\(.*\\) \\{$").matcher(line);
    }

    private static void methods(String code) {
        int length = 0;
        int longest = 0;
        int methods = 0;
        String end = "";
        for (String line : code.split("\n")) {
            Due.holds("a line of " + line.length(), line.length() <= 120);
            Matcher m = header(line);
            if (m.find()) {
                methods++;
                length = 0;
                end = m.group(1) + "}";
            }
            length++;
            if (line.equals(end)) {
                longest = Math.max(longest, length);
                end = "";
            }
        }
        Due.holds("11: methods are found: " + methods, methods > 100);
        Due.holds("11: the longest method has " + longest + " lines", longest > 5 && longest <= 60);
    }
}
