import java.io.IOException;
import java.lang.reflect.Field;
import java.lang.reflect.Modifier;
import java.net.URL;
import java.net.URLClassLoader;
import java.nio.file.DirectoryStream;
import java.nio.file.Files;
import java.nio.file.Path;
import java.util.ArrayList;
import java.util.List;
import java.util.Set;
import java.util.TreeSet;
import java.util.function.BiConsumer;
import java.util.regex.Matcher;
import java.util.regex.Pattern;
import javax.tools.ToolProvider;

/** README.md can't go stale: its example is compiled and run, and every answer that it tells is the class's. */
public final class ReadmeTest {
    private static final Path README = Path.of("README.md");
    private static final Path TESTS = Path.of("src/test/java");
    /** What a new user has to see. */
    private static final List<String> SHOWN = List.of("ring", "reader", "begin", "claim", "batch", "fill", "copy",
        "publish", "read", "round", "got", "word", "found");
    private static final Pattern CALL = Pattern.compile(
        "(?:(int|long|boolean) (\\w+) = )?(post\\.\\w+\\(.*\\)); +// (-?\\w+)(?:[:,] .*)?");
    private static final Checks CHECKS = new Checks();

    public static void main(String[] args) throws IOException, ReflectiveOperationException {
        String text = Files.readString(README);
        int tests = text.indexOf("\n## Tests");
        String use = text.substring(text.indexOf("\n## Use"), tests);
        runExample(blocks(use));
        showsEnough(use);
        tables(use);
        runsOfSentences(blocks(text.substring(tests)));
        namesOfTests(text.substring(tests));
        CHECKS.end();
    }

    /** The lines of all parts that are marked as Java. */
    private static List<String> blocks(String text) {
        List<String> lines = new ArrayList<>();
        Matcher matcher = Pattern.compile("(?s)```java\n(.*?)```").matcher(text);
        while (matcher.find()) {
            lines.addAll(matcher.group(1).lines().toList());
        }
        return lines;
    }

    // ---- the example

    private static void runExample(List<String> lines) throws IOException, ReflectiveOperationException {
        CHECKS.part("the example");
        Path folder = Files.createTempDirectory("readme");
        Path source = folder.resolve("ReadmeExample.java");
        Path compiled = folder.resolve("ReadmeExample.class");
        Files.writeString(source, program(lines));
        int failed = ToolProvider.getSystemJavaCompiler().run(null, null, null, "-cp",
            System.getProperty("java.class.path"), "-d", folder.toString(), source.toString());
        CHECKS.due("compiling it", failed, 0);
        if (failed == 0) {
            runCompiled(folder);
        }
        Files.deleteIfExists(compiled);
        Files.delete(source);
        Files.delete(folder);
    }

    private static void runCompiled(Path folder) throws IOException, ReflectiveOperationException {
        BiConsumer<String, long[]> seen = (call, answers) -> CHECKS.due(call, answers[0], answers[1]);
        try (URLClassLoader loader = new URLClassLoader(new URL[] {folder.toUri().toURL()})) {
            loader.loadClass("ReadmeExample").getMethod("run", BiConsumer.class).invoke(null, seen);
        }
    }

    /** The example with each call's answer handed on, together with the one that stands behind it. */
    private static String program(List<String> lines) {
        StringBuilder text = new StringBuilder("public final class ReadmeExample {\n"
            + "static long number(boolean answer) { return answer ? 1 : 0; }\n"
            + "static long number(long answer) { return answer; }\n"
            + "public static void run(java.util.function.BiConsumer<String, long[]> seen) {\n");
        for (String line : lines) {
            text.append(statement(line)).append('\n');
        }
        return text + "}\n}\n";
    }

    private static String statement(String line) {
        Matcher call = CALL.matcher(line);
        if (!call.matches()) {
            boolean isCall = !line.isBlank() && !line.equals("RingPost post = new RingPost();");
            CHECKS.due("a call without its answer: " + line, isCall, false);
            return line;
        }
        String told = call.group(4);
        String due = told.matches("[A-Z]+") ? "RingPost." + told : told;
        String made = call.group(1) == null ? "" : call.group(1) + " " + call.group(2) + " = " + call.group(3) + "; ";
        String answer = call.group(2) == null ? call.group(3) : call.group(2);
        String both = "new long[] {number(" + answer + "), number(" + due + ")}";
        return made + "seen.accept(\"" + call.group(3) + "\", " + both + ");";
    }

    private static void showsEnough(String use) {
        CHECKS.part("the example shows");
        for (String name : SHOWN) {
            CHECKS.due(name, use.contains("post." + name + "("), true);
        }
        for (String refusal : List.of("STATE", "HELD", "FOUND")) {
            CHECKS.due(refusal, use.contains("// " + refusal), true);
        }
    }

    // ---- the tables

    private static void tables(String use) throws ReflectiveOperationException {
        CHECKS.part("the tables");
        for (Field each : RingPost.class.getFields()) {
            if (Modifier.isStatic(each.getModifiers())) {
                row(use, "`" + each.getName() + "`", String.valueOf(each.getInt(null)));
            }
        }
        List<String> findings = List.of("MISSING", "BEYOND", "SIZE", "CAST", "COPY", "NONE");
        for (int i = 0; i < findings.size(); i++) {
            row(use, String.valueOf(i + 1), findings.get(i));
        }
        List<String> kinds = List.of("SEES", "WAITS", "MISSES", "FOLDS", "MERGE", "GATE", "ECHO");
        for (int i = 0; i < kinds.size(); i++) {
            row(use, String.valueOf(i + 1), kinds.get(i));
        }
    }

    private static void row(String text, String first, String second) {
        Pattern row = Pattern.compile("(?m)^\\| " + Pattern.quote(first) + " +\\| " + Pattern.quote(second) + " +\\|");
        CHECKS.due("a row of " + first + " and " + second, row.matcher(text).find(), true);
    }

    // ---- what is said of the tests

    private static void runsOfSentences(List<String> lines) throws IOException {
        CHECKS.part("the run that is told as text");
        Document document = new Document();
        int runs = 0;
        for (String line : lines) {
            String words = line.replaceAll("^\\w+\\(\"|\"\\);$", "");
            if (line.startsWith("sentence(")) {
                CHECKS.due("the document says: " + words, isSaid(document, words), true);
            } else {
                RingPost post = new RingPost();
                for (Call call : Call.all(words)) {
                    long answer = call.answerOf(post);
                    CHECKS.due(call.text, answer, call.isDue(answer), call.dueAsText());
                }
                runs++;
            }
        }
        CHECKS.due("runs", runs, 1);
    }

    private static boolean isSaid(Document document, String words) {
        boolean isThere = false;
        for (String section : document.sections()) {
            isThere = true;
            if (document.has(section, words)) {
                return true;
            }
        }
        return !isThere;
    }

    private static void namesOfTests(String text) throws IOException {
        CHECKS.part("the names of the tests");
        Set<String> named = new TreeSet<>();
        Matcher matcher = Pattern.compile("`(\\w+(Test|Sentences))`").matcher(text);
        while (matcher.find()) {
            named.add(matcher.group(1));
        }
        for (String each : named) {
            CHECKS.due(each + " is there", Files.exists(TESTS.resolve(each + ".java")), true);
        }
        try (DirectoryStream<Path> files = Files.newDirectoryStream(TESTS, "*Test.java")) {
            for (Path file : files) {
                String name = file.getFileName().toString().replace(".java", "");
                CHECKS.due(name + " is named", named.contains(name), true);
            }
        }
    }
}
