import java.io.IOException;
import java.lang.reflect.Method;
import java.nio.file.Files;
import java.nio.file.Path;
import java.util.Set;
import java.util.TreeSet;
import java.util.regex.Matcher;
import java.util.regex.Pattern;

/** The notes list the tests of sentences that name an edge: what is listed is there, what is there is listed. */
public final class EdgesListTest {
    private static final Class<?>[] TESTS = {EdgesOfTermsTest.class, EdgesOfTextsTest.class, EdgesOfPiecesTest.class,
        EdgesOfReportsTest.class, EdgesOfGrammarTest.class, EdgesOfChangesTest.class, EdgesOfKeptTest.class};

    public static void main(String[] args) throws IOException {
        Set<String> listed = listed(Files.readString(Path.of(args[0])));
        Set<String> there = there();
        Check.equal("listed, and not there", without(listed, there), "[]");
        Check.equal("there, and not listed", without(there, listed), "[]");
        for (int k = 1; k <= 40; k++) {
            String promise = String.format("promise%02d", k);
            Check.isTrue(promise + " has a test", there.stream().anyMatch(name -> name.startsWith(promise)));
        }
        Check.finish();
    }

    private static Set<String> listed(String notes) {
        Set<String> names = new TreeSet<>();
        Matcher matcher = Pattern.compile("`((promise[0-9]{2}|terms)[A-Z0-9]\\w*)`").matcher(notes);
        while (matcher.find()) {
            names.add(matcher.group(1));
        }
        return names;
    }

    private static Set<String> there() {
        Set<String> names = new TreeSet<>();
        for (Class<?> tests : TESTS) {
            for (Method method : tests.getDeclaredMethods()) {
                if (Check.isSentenceTest(method)) {
                    Check.isTrue(method.getName() + " is there once", names.add(method.getName()));
                }
            }
        }
        return names;
    }

    private static String without(Set<String> some, Set<String> others) {
        Set<String> rest = new TreeSet<>(some);
        rest.removeAll(others);
        return rest.toString();
    }
}
