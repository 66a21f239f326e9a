import java.io.IOException;
import java.lang.reflect.InvocationTargetException;
import java.net.URL;
import java.net.URLClassLoader;
import java.nio.file.Files;
import java.nio.file.Path;
import java.util.ArrayList;
import java.util.List;
import java.util.regex.Matcher;
import java.util.regex.Pattern;
import java.util.stream.Stream;
import javax.tools.JavaCompiler;
import javax.tools.ToolProvider;

/**
 * No sentence of the document's Terms and promises is without a test that is headed by its words; and the code in
 * README.md answers what is written beside it.
 */
public final class DocumentTest {
    private static final Pattern SAYS = Pattern.compile("Check\\.says\\(\"([^\"]*)\"\\);");
    private static final Pattern ANSWER = Pattern.compile(" *((?:x\\.|tell\\().*\\)); *// (-?\\d+|true|false|\\w+Exception)\\b.*");

    public static void main(String[] args) throws Exception {
        everySentence();
        readme();
        Check.close();
    }

    private static void everySentence() throws IOException {
        String document = Files.readString(Path.of("../shared/DOC.md")).replaceAll("\\s+", " ");
        String promised = document.substring(document.indexOf("## Terms"), document.indexOf("## Not promised"));
        char[] left = promised.toCharArray();
        for (String words : headings()) {
            for (int at = promised.indexOf(words); at >= 0; at = promised.indexOf(words, at + 1)) {
                java.util.Arrays.fill(left, at, at + words.length(), '|');
            }
        }
        // headings, and what the face says already: LanguageTest has these
        String rest = new String(left).replaceAll("## Terms", "").replaceAll("## Promise \\d+: [\\w ]*", "")
            .replaceAll("```text", "").replaceAll("`[^`]*`:", "").replaceAll("==== \\d\\.", "");
        for (String one : rest.split("\\|+")) {
            Check.due("a sentence without a test: [" + one + "]", false, one.matches(".*[A-Za-z].*"));
        }
    }

    private static List<String> headings() throws IOException {
        List<String> all = new ArrayList<>();
        try (Stream<Path> files = Files.list(Path.of("src/test/java"))) {
            for (Path file : files.sorted().toList()) {
                Matcher says = SAYS.matcher(Files.readString(file).replaceAll("\"\\s*\\+\\s*\"", ""));
                while (says.find()) {
                    all.add(says.group(1));
                }
            }
        }
        Check.due("headings are found", true, all.size() > 100);
        return all;
    }

    // ---- README.md

    private static void readme() throws Exception {
        List<String> blocks = new ArrayList<>();
        Matcher block = Pattern.compile("(?s)```java\n(.*?)```").matcher(Files.readString(Path.of("README.md")));
        while (block.find()) {
            blocks.add(block.group(1));
        }
        Check.due("pieces of code in README.md", 2, blocks.size());
        StringBuilder source = new StringBuilder("public final class Example {\n" + blocks.get(0));
        source.append("public static void main(String[] args) {\n");
        int answers = 0;
        for (String line : blocks.get(1).split("\n")) {
            Matcher answer = ANSWER.matcher(line);
            answers += answer.matches() ? 1 : 0;
            source.append(answer.matches() ? checked(answer.group(1), answer.group(2)) : line).append("\n");
        }
        Check.due("answers in README.md", true, answers > 30);
        run(source.append("}\n}\n").toString());
    }

    private static String checked(String call, String answer) {
        String wrong = "throw new IllegalStateException(\"README.md: " + call.replace("\"", "'") + " // " + answer + "\");";
        if (answer.endsWith("Exception")) {
            return "{ boolean thrown = false; try { " + call + "; } catch (" + answer + " e) { thrown = true; } "
                + "if (!thrown) { " + wrong + " } }";
        }
        return "if ((" + call + ") != " + answer + ") { " + wrong + " }";
    }

    private static void run(String source) throws Exception {
        JavaCompiler compiler = ToolProvider.getSystemJavaCompiler();
        if (compiler == null) {
            System.out.println("no compiler within java here: README.md's code is not tried");
            return;
        }
        Path folder = Files.createTempDirectory("readme");
        Path file = folder.resolve("Example.java");
        Files.writeString(file, source);
        String classes = System.getProperty("java.class.path");
        int code = compiler.run(null, null, null, "-cp", classes, "-d", folder.toString(),
            file.toString());
        Check.due("README.md's code compiles", 0, code);
        if (code == 0) {
            try (URLClassLoader loader = new URLClassLoader(new URL[] {folder.toUri().toURL()})) {
                loader.loadClass("Example").getMethod("main", String[].class).invoke(null, (Object) new String[0]);
            } catch (InvocationTargetException e) {
                Check.report("" + e.getCause());
            }
        }
        for (String name : new String[] {"Example.class", "Example.java", ""}) {
            Files.deleteIfExists(folder.resolve(name));
        }
    }
}
