import java.io.IOException;
import java.net.URL;
import java.net.URLClassLoader;
import java.nio.file.Files;
import java.nio.file.Path;
import java.util.ArrayList;
import java.util.List;
import java.util.Set;
import java.util.TreeSet;
import java.util.regex.Matcher;
import java.util.regex.Pattern;
import java.util.stream.Stream;
import javax.tools.ToolProvider;

/** What README.md says is so. Arguments: that page, and the directory of the tests that it names. */
public final class ReadmeTest {
    private static final Pattern ASKED = Pattern.compile("(x\\.\\w+\\(.*\\)); +// (-?\\d+|true|false|NoSuchElementException)(:.*| \\(.*)?");
    private static final String NAME = "ReadmeCalls";

    public static void main(String[] args) throws Exception {
        String page = Files.readString(Path.of(args[0]));
        askNames(page, Path.of(args[1]));
        runCalls(programOf(page));
        Check.finish();
    }

    private static void askNames(String page, Path tests) throws IOException {
        Set<String> named = new TreeSet<>(found("`(\\w+Test)`", page));
        Set<String> there = new TreeSet<>();
        try (Stream<Path> files = Files.list(tests)) {
            files.map(file -> file.getFileName().toString()).filter(name -> name.endsWith("Test.java"))
                    .forEach(name -> there.add(name.substring(0, name.length() - ".java".length())));
        }
        Check.equal("the tests that it names", named.toString(), there.toString());
        Set<String> shown = new TreeSet<>(found("\\bx\\.(\\w+)\\(", page));
        Check.isTrue("it shows most of the calls", shown.size() > 30);
    }

    private static List<String> found(String regex, String page) {
        List<String> all = new ArrayList<>();
        Matcher matcher = Pattern.compile(regex).matcher(page);
        while (matcher.find()) {
            all.add(matcher.group(1));
        }
        return all;
    }

    /** The page's own lines, each call with an answer put into a question; helpers stand beside them. */
    private static String programOf(String page) {
        StringBuilder helpers = new StringBuilder();
        StringBuilder calls = new StringBuilder();
        for (String block : found("(?s)\n```java\n(.*?)```\n", page)) {
            if (block.startsWith("static ")) {
                helpers.append(block);
            } else {
                block.lines().forEach(line -> calls.append(questionOf(line)).append('\n'));
            }
        }
        return "public final class " + NAME + " {\n" + helpers + "public static void run() {\n" + calls + "}\n}\n";
    }

    private static String questionOf(String line) {
        Matcher asked = ASKED.matcher(line);
        if (!asked.matches()) {
            Check.isFalse("a call without an answer: " + line, line.startsWith("x."));
            return line;
        }
        String call = asked.group(1);
        String due = "ReadmeTest.due(\"" + call + "\", ";
        String want = ", \"" + asked.group(2) + "\");";
        return "try { " + due + "String.valueOf(" + call + ")" + want + " } catch (java.util.NoSuchElementException e) { "
                + due + "\"NoSuchElementException\"" + want + " }";
    }

    /** Called by the program that is made of the page. */
    public static void due(String call, String got, String want) {
        Check.equal(call, got, want);
    }

    private static void runCalls(String program) throws Exception {
        Path made = Files.createTempDirectory("readme");
        Path source = made.resolve(NAME + ".java");
        Files.writeString(source, program);
        int compiled = ToolProvider.getSystemJavaCompiler().run(null, null, null, "-cp",
                System.getProperty("java.class.path"), "-d", made.toString(), source.toString());
        Check.equal("what it shows compiles", compiled, 0);
        if (compiled == 0) {
            try (URLClassLoader loader = new URLClassLoader(new URL[] {made.toUri().toURL()})) {
                loader.loadClass(NAME).getMethod("run").invoke(null);
            }
        }
        Files.deleteIfExists(made.resolve(NAME + ".class"));
        Files.delete(source);
        Files.delete(made);
    }
}
