import java.lang.reflect.Method;
import java.lang.reflect.Modifier;
import java.nio.file.DirectoryStream;
import java.nio.file.Files;
import java.nio.file.Path;
import java.util.ArrayList;
import java.util.List;
import java.util.regex.Matcher;
import java.util.regex.Pattern;
import javax.tools.ToolProvider;

/** README.md: its examples answer as told beside them, and it names each call and each test. */
public final class ReadmeTest {
    private static final Path PAGE = Path.of("README.md");
    private static final Path TESTS = Path.of("src/test/java");

    public static void main(String[] args) throws Exception {
        List<String> lines = Files.readAllLines(PAGE);
        runs(examples(lines));
        String page = String.join("\n", lines);
        for (Method call : StairManners.class.getDeclaredMethods()) {
            if (Modifier.isPublic(call.getModifiers())) {
                Due.holds("the page names " + call.getName(), page.contains("`" + call.getName() + "("));
            }
        }
        List<String> files = new ArrayList<>();
        try (DirectoryStream<Path> all = Files.newDirectoryStream(TESTS, "*.java")) {
            for (Path file : all) {
                files.add(file.getFileName().toString().replace(".java", ""));
            }
        }
        for (String file : files) {
            Due.holds("the page names " + file, page.contains("`" + file + "`"));
        }
        Matcher named = Pattern.compile("`(\\w+Test)`").matcher(page);
        while (named.find()) {
            Due.holds("there is a " + named.group(1), files.contains(named.group(1)));
        }
        Due.finish();
    }

    /** The lines of all examples; a call with an answer beside it becomes one that is asked. */
    private static String examples(List<String> lines) {
        StringBuilder code = new StringBuilder();
        boolean inside = false;
        int answers = 0;
        Pattern told = Pattern.compile("(\\w+\\.[^;]*);\\s*// (-?[0-9]+)(:.*)?");
        for (String line : lines) {
            if (line.startsWith("```")) {
                inside = line.equals("```java");
            } else if (inside) {
                Matcher m = told.matcher(line);
                boolean asked = m.matches();
                answers += asked ? 1 : 0;
                Due.holds("an answer is told beside " + line, asked || !line.contains("//"));
                code.append(asked ? "Due.is(\"" + m.group(1) + "\", " + m.group(1) + ", " + m.group(2) + ");" : line);
                code.append('\n');
            }
        }
        Due.holds("answers are told: " + answers, answers > 20);
        return code.toString();
    }

    /** Compiled beside the tests' own classes, as Due is open to those alone. */
    private static void runs(String code) throws Exception {
        Path classes = Path.of(Due.class.getProtectionDomain().getCodeSource().getLocation().toURI());
        Path file = Files.createTempDirectory("readme").resolve("Examples.java");
        Files.writeString(file, "public final class Examples { public static void run() {\n" + code + "} }\n");
        int result = ToolProvider.getSystemJavaCompiler().run(null, null, null,
            "-cp", classes.toString(), "-d", classes.toString(), file.toString());
        Due.is("the examples compile", result, 0);
        if (result == 0) {
            Class.forName("Examples").getMethod("run").invoke(null);
            Files.delete(classes.resolve("Examples.class"));
        }
        Files.delete(file);
        Files.delete(file.getParent());
    }
}
