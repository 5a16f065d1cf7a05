import java.util.NoSuchElementException;

/** What the tests share: texts typed in fours, and answers compared. */
final class Check {
    private static int asked = 0;
    private static int wrong = 0;

    private Check() {
    }

    interface Call {
        long ask();
    }

    static void type(PiecesThatFit x, String text) {
        x.end(0);
        for (int p = 0; p < text.length(); p += 4) {
            int v = 0;
            for (int k = 0; k < 4; k++) {
                v = v << 8 | (p + k < text.length() ? text.charAt(p + k) & 255 : 0);
            }
            x.sign(v);
        }
        x.end(text.length());
    }

    static int grammar(PiecesThatFit x, String text) {
        type(x, text);
        return x.grammar();
    }

    static int line(PiecesThatFit x, String text) {
        type(x, text);
        return x.line();
    }

    static int brackets(PiecesThatFit x, String text) {
        type(x, text);
        return x.brackets();
    }

    static int day(PiecesThatFit x, String text) {
        type(x, text);
        return x.day();
    }

    static PiecesThatFit object(String grammar, String line) {
        PiecesThatFit x = new PiecesThatFit();
        equal("the grammar " + grammar + " is taken", grammar(x, grammar) > 0 ? 1 : 0, 1);
        equal("the line " + line + " is taken", line(x, line), line.length());
        return x;
    }

    static String lineOf(PiecesThatFit x) {
        StringBuilder b = new StringBuilder();
        for (int p = 1; p <= x.count(0); p++) {
            b.append((char) ('a' + x.at(p)));
        }
        return b.toString();
    }

    static String rowOf(PiecesThatFit x) {
        StringBuilder b = new StringBuilder();
        for (int i = 0; i < x.count(6); i++) {
            b.append(i > 0 ? " " : "").append(x.row(i));
        }
        return b.toString();
    }

    static void equal(String what, long got, long want) {
        asked++;
        if (got != want) {
            wrong++;
            System.out.println(what + ": " + got + ", due is " + want);
        }
    }

    static void equal(String what, String got, String want) {
        asked++;
        if (!got.equals(want)) {
            wrong++;
            System.out.println(what + ": " + got + ", due is " + want);
        }
    }

    static void isTrue(String what, boolean got) {
        equal(what, got ? 1 : 0, 1);
    }

    static void isFalse(String what, boolean got) {
        equal(what, got ? 1 : 0, 0);
    }

    /** An answer and the ROW behind it. */
    static void tells(String what, PiecesThatFit x, long got, long want, String row) {
        equal(what, got, want);
        equal(what + ", its ROW", rowOf(x), row);
    }

    static void throwsNoSuch(String what, Call call) {
        asked++;
        try {
            long got = call.ask();
            wrong++;
            System.out.println(what + ": " + got + ", due is NoSuchElementException");
        } catch (NoSuchElementException e) {
            // as it is due
        }
    }

    static void finish() {
        System.out.println((asked - wrong) + " answers as due, " + wrong + " not");
        if (wrong != 0) {
            System.exit(1);
        }
    }
}
