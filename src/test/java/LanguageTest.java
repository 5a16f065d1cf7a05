import java.io.IOException;
import java.nio.file.Files;
import java.nio.file.Path;
import java.util.ArrayList;
import java.util.List;
import java.util.TreeSet;
import java.util.regex.Matcher;
import java.util.regex.Pattern;

/** LANGUAGE.md, as far as the source's text shows it. The first argument is the source. */
public final class LanguageTest {
    private static final String[] FORBIDDEN = {
        "\\bpackage\\b", "\\bprotected\\b", "\\bfinally\\b", "\\bsynchronized\\b", "\\bassert\\b", "->", "::", "\\btry\\b",
        "\\bcatch\\b", "static\\s*\\{", "\\bdouble\\b", "\\bfloat\\b", "\\bThread\\b", "\\bRandom\\b", "currentTimeMillis",
        "nanoTime", "\\bString\\b", "Exact\\b", "\\bequals\\b", "\\bhashCode\\b", "\\btoString\\b", "\\bvar\\b", "\\bObject\\b"};
    private static final TreeSet<String> LIBRARY = new TreeSet<>(List.of("Math.min", "Math.max", "Math.floorMod",
        "Math.floorDiv", "Math.abs", "Integer.bitCount", "Integer.compare", "System.arraycopy"));

    public static void main(String[] args) throws IOException {
        String source = Files.readString(Path.of(args[0]));
        String code = source.replaceAll("(?s)/\\*.*?\\*/", "").replaceAll("//[^\n]*", "").replaceAll("\"[^\"]*\"", "\"\"");
        for (String forbidden : FORBIDDEN) {
            Check.isFalse("there is " + forbidden, Pattern.compile(forbidden).matcher(code).find());
        }
        askImports(code);
        askLibrary(code);
        askThrows(code);
        askLengths(code);
        for (char c : source.toCharArray()) {
            if (c > 126) {
                Check.isTrue("plain signs alone", false);
            }
        }
        Check.finish();
    }

    private static List<String> found(String regex, String code) {
        List<String> all = new ArrayList<>();
        Matcher matcher = Pattern.compile(regex).matcher(code);
        while (matcher.find()) {
            all.add(matcher.group(1));
        }
        return all;
    }

    private static void askImports(String code) {
        Check.equal("imports", found("\\bimport\\s+([^;]*);", code).toString(), "[java.util.NoSuchElementException]");
    }

    private static void askLibrary(String code) {
        for (String call : found("\\b((?:Math|Integer|Long|System|Arrays|Character)\\.\\w+)", code)) {
            Check.isTrue("the library has " + call, LIBRARY.contains(call));
        }
    }

    private static void askThrows(String code) {
        for (String thrown : found("\\bthrow\\s+([^;]*);", code)) {
            Check.equal("thrown", thrown, "new NoSuchElementException(\"\")");
        }
    }

    /** A method's lines, from the one with its name on to the one that closes it. */
    private static void askLengths(String code) {
        String[] lines = code.split("\n");
        Pattern head = Pattern.compile("^( {4}| {8})(?:[a-z]+ )*(?:[\\w\\[\\]]+ )?\\w+\\([^;=]*\\{$");
        int methods = 0;
        for (int k = 0; k < lines.length; k++) {
            Matcher matcher = head.matcher(lines[k]);
            if (matcher.matches()) {
                int close = k;
                while (!lines[close].equals(matcher.group(1) + "}")) {
                    close++;
                }
                methods++;
                Check.isTrue("sixty lines at most: " + lines[k].trim(), close - k + 1 <= 60);
            }
        }
        Check.isTrue("methods are seen", methods > 39);
    }
}
