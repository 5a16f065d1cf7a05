import java.lang.reflect.InvocationTargetException;
import java.lang.reflect.Method;
import java.util.Arrays;
import java.util.Comparator;
import java.util.NoSuchElementException;

/** What the tests share: texts typed in fours, and answers compared. */
final class Check {
    static final int MIN = Integer.MIN_VALUE;
    static final int MAX = Integer.MAX_VALUE;

    private static int asked = 0;
    private static int wrong = 0;
    /** The test that runs now, ahead of each line that it prints. */
    private static String test = "";

    private Check() {
    }

    interface Call {
        long ask();
    }

    /** Whether a method is a test of a sentence of the document: its name says which promise, or the terms. */
    static boolean isSentenceTest(Method method) {
        return method.getName().matches("(promise[0-9]{2}|terms)[A-Z0-9].*");
    }

    /** Runs every test of a sentence that a class has, so that none is written and forgotten. */
    static void runAll(Class<?> tests) {
        Method[] methods = tests.getDeclaredMethods();
        Arrays.sort(methods, Comparator.comparing(Method::getName));
        int count = 0;
        for (Method method : methods) {
            if (isSentenceTest(method)) {
                run(method);
                count++;
            }
        }
        System.out.println(count + " tests of sentences");
        finish();
    }

    private static void run(Method method) {
        test = method.getName() + ": ";
        int before = asked;
        try {
            method.invoke(null);
        } catch (InvocationTargetException e) {
            wrong++;
            System.out.println(test + "throws " + e.getCause());
        } catch (IllegalAccessException e) {
            throw new IllegalStateException(e);
        }
        if (asked == before) {
            wrong++;
            System.out.println(test + "asks nothing");
        }
        test = "";
    }

    static void type(PiecesThatFit x, String text) {
        x.end(0);
        for (int p = 0; p < text.length(); p += 4) {
            int v = 0;
            for (int k = 0; k < 4; k++) {
                v = v << 8 | (p + k < text.length() ? text.charAt(p + k) & 255 : 0);
            }
            x.sign(v);
        }
        x.end(text.length());
    }

    static int grammar(PiecesThatFit x, String text) {
        type(x, text);
        return x.grammar();
    }

    static int line(PiecesThatFit x, String text) {
        type(x, text);
        return x.line();
    }

    static int brackets(PiecesThatFit x, String text) {
        type(x, text);
        return x.brackets();
    }

    static int day(PiecesThatFit x, String text) {
        type(x, text);
        return x.day();
    }

    static PiecesThatFit object(String grammar, String line) {
        PiecesThatFit x = new PiecesThatFit();
        equal("the grammar " + grammar + " is taken", grammar(x, grammar) > 0 ? 1 : 0, 1);
        equal("the line " + line + " is taken", line(x, line), line.length());
        return x;
    }

    static PiecesThatFit object(String grammar, String line, String brackets) {
        PiecesThatFit x = object(grammar, line);
        equal("the brackets " + brackets + " are taken", brackets(x, brackets), brackets.length() / 2);
        return x;
    }

    static String lineOf(PiecesThatFit x) {
        StringBuilder b = new StringBuilder();
        for (int p = 1; p <= x.count(0); p++) {
            b.append((char) ('a' + x.at(p)));
        }
        return b.toString();
    }

    static String rowOf(PiecesThatFit x) {
        StringBuilder b = new StringBuilder();
        for (int i = 0; i < x.count(6); i++) {
            b.append(i > 0 ? " " : "").append(x.row(i));
        }
        return b.toString();
    }

    /** All ALTERNATIVES as they are numbered, with a blank behind each. */
    static String symbolsOf(PiecesThatFit x) {
        StringBuilder b = new StringBuilder();
        for (int k = 0; k < x.count(1); k++) {
            for (int i = 0; hasSymbol(x, k, i); i++) {
                int symbol = x.symbol(k, i);
                b.append((char) (symbol < 8 ? 'a' + symbol : 'A' + symbol - 8));
            }
            b.append(' ');
        }
        return b.toString();
    }

    private static boolean hasSymbol(PiecesThatFit x, int k, int i) {
        try {
            x.symbol(k, i);
            return true;
        } catch (NoSuchElementException e) {
            return false;
        }
    }

    static void equal(String what, long got, long want) {
        asked++;
        if (got != want) {
            wrong++;
            System.out.println(test + what + ": " + got + ", due is " + want);
        }
    }

    static void equal(String what, String got, String want) {
        asked++;
        if (!got.equals(want)) {
            wrong++;
            System.out.println(test + what + ": " + got + ", due is " + want);
        }
    }

    static void isTrue(String what, boolean got) {
        equal(what, got ? 1 : 0, 1);
    }

    static void isFalse(String what, boolean got) {
        equal(what, got ? 1 : 0, 0);
    }

    /** An answer and the ROW behind it. */
    static void tells(String what, PiecesThatFit x, long got, long want, String row) {
        equal(what, got, want);
        equal(what + ", its ROW", rowOf(x), row);
    }

    static void throwsNoSuch(String what, Call call) {
        asked++;
        try {
            long got = call.ask();
            wrong++;
            System.out.println(test + what + ": " + got + ", due is NoSuchElementException");
        } catch (NoSuchElementException e) {
            // as it is due
        }
    }

    static void finish() {
        System.out.println((asked - wrong) + " answers as due, " + wrong + " not");
        if (wrong != 0) {
            System.exit(1);
        }
    }
}
