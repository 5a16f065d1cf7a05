/** Each sentence of promises 37 to 40 that names an edge has a test of its own here. */
public final class EdgesOfKeptTest {
    private static final int MIN = Check.MIN;
    private static final int MAX = Check.MAX;
    private static final int[] NO_NUMBERS = {-1, 2, 3, MIN, MAX};

    public static void main(String[] args) {
        Check.runAll(EdgesOfKeptTest.class);
    }

    static void promise37Others() {
        PiecesThatFit x = new PiecesThatFit();
        for (int i : NO_NUMBERS) {
            Check.isFalse("keep(" + i + ")", x.keep(i));
        }
        Check.isFalse("nothing is kept under 0", x.again(0));
        Check.isFalse("nothing is kept under 1", x.again(1));
        Check.isTrue("keep(0)", x.keep(0));
        Check.isTrue("keep(1)", x.keep(1));
    }

    static void promise37EmptyAndFull() {
        PiecesThatFit x = new PiecesThatFit();
        x.keep(0);
        Check.grammar(x, "F=ABCD|abcd;A=bcde|BCDE;B=cdef|CDEF;C=defg|DEFA;D=efgh|EFAB;E=FABC|ghab");
        Check.line(x, "abcdefghabcdef");
        Check.brackets(x, "abcdef");
        x.keep(1);
        x.again(0);
        Check.equal("an empty line", x.count(0), 0);
        Check.equal("no brackets", x.count(4), 0);
        Check.equal("A= alone", Check.symbolsOf(x), " ");
        Check.equal("A alone", x.count(2), 1);
        Check.equal("START is A", x.count(3), 0);
        x.again(1);
        Check.equal("a full line", Check.lineOf(x), "abcdefghabcdef");
        Check.equal("three pairs", x.count(4), 3);
        Check.equal("the third pair", x.mate(5), 6);
        Check.equal("twelve alternatives", Check.symbolsOf(x),
            "ABCD abcd bcde BCDE cdef CDEF defg DEFA efgh EFAB FABC ghab ");
        Check.equal("all capitals", x.count(2), 63);
        Check.equal("START is F", x.count(3), 5);
    }

    static void promise37KeptAnew() {
        PiecesThatFit x = Check.object("A=", "a");
        x.keep(0);
        Check.line(x, "b");
        x.keep(0);
        x.goes(1);
        x.again(0);
        Check.equal("the latest", Check.lineOf(x), "b");
        x.goes(1);
        x.again(0);
        Check.equal("as often as it is asked for", Check.lineOf(x), "b");
    }

    static void promise37NothingElseChanges() {
        PiecesThatFit x = Untouched.rich();
        String row = Check.rowOf(x);
        x.keep(0);
        Check.equal("what can be undone", x.count(5), 6);
        Check.equal("THE TEXT", x.count(7), 3);
        Check.equal("the ROW", Check.rowOf(x), row);
        Check.equal("the line", Check.lineOf(x), "acedbhb");
    }

    static void promise37RefusedChangesNothing() {
        Untouched.by("below 0", 0, x -> x.keep(-1) ? 1 : 0);
        Untouched.by("above 1", 0, x -> x.keep(2) ? 1 : 0);
    }

    static void promise38NothingKept() {
        PiecesThatFit x = Check.object("A=", "ab");
        for (int i : NO_NUMBERS) {
            Check.isFalse("again(" + i + ")", x.again(i));
        }
        Check.isFalse("under 0", x.again(0));
        Check.isFalse("under 1", x.again(1));
        x.keep(1);
        Check.isFalse("under 0 still", x.again(0));
        Check.isTrue("under 1", x.again(1));
        for (int i : NO_NUMBERS) {
            Check.isFalse("again(" + i + ")", x.again(i));
        }
    }

    static void promise38BracketsAsTheyWereKept() {
        PiecesThatFit x = Check.object("A=", "abcdefgh", "abcdef");
        x.keep(0);
        Check.brackets(x, "hgfedc");
        x.keep(1);
        x.again(0);
        int[] due = {2, 1, 4, 3, 6, 5, -2, -2};
        for (int p = 1; p <= 8; p++) {
            Check.equal("mate(" + p + ")", x.mate(p), due[p - 1]);
        }
        x.again(1);
        for (int p = 1; p <= 8; p++) {
            Check.equal("none opens ahead of its closing one", x.mate(p), -2);
        }
    }

    static void promise38TextRowAndKeptStay() {
        PiecesThatFit x = Untouched.rich();
        String row = Check.rowOf(x);
        Check.isTrue("again", x.again(1));
        Check.equal("THE TEXT", x.count(7), 3);
        Check.equal("the ROW", Check.rowOf(x), row);
        Check.equal("the line", Check.lineOf(x), "bcd");
        Check.isFalse("nothing is kept under 0", x.again(0));
    }

    static void promise38RefusedChangesNothing() {
        Untouched.by("nothing is kept", 0, x -> x.again(0) ? 1 : 0);
        Untouched.by("below 0", 0, x -> x.again(-1) ? 1 : 0);
        Untouched.by("above 1", 0, x -> x.again(2) ? 1 : 0);
    }

    static void promise39AnotherWhat() {
        PiecesThatFit x = Untouched.rich();
        int[] others = {-1, 9, MIN, MAX};
        for (int what : others) {
            Check.equal("count(" + what + ")", x.count(what), -1);
        }
        int[] due = {7, 4, 5, 0, 2, 6, 2, 3, 7};
        for (int what = 0; what < due.length; what++) {
            Check.equal("count(" + what + ")", x.count(what), due[what]);
        }
    }

    static void promise39Least() {
        PiecesThatFit x = new PiecesThatFit();
        int[] due = {0, 1, 1, 0, 0, 0, 0, 0, 0};
        for (int what = 0; what < due.length; what++) {
            Check.equal("count(" + what + ")", x.count(what), due[what]);
        }
    }

    static void promise39Largest() {
        PiecesThatFit x = new PiecesThatFit();
        for (int k = 0; k < 8; k++) {
            x.comes(1, 0);
        }
        Check.brackets(x, "abcdef");
        Check.line(x, "aaaaaaaaaaaaaa");
        Check.grammar(x, "F=bab|bb|bb|bb|bb|bb|bb;A=b;B=bhgf;C=b;D=cdeb;E=b");
        x.least();
        for (int k = 0; k < 20; k++) {
            x.sign(0);
        }
        int[] due = {14, 12, 63, 5, 3, 10, 30, 80, 3};
        for (int what = 0; what < due.length; what++) {
            Check.equal("count(" + what + ")", x.count(what), due[what]);
        }
        Check.grammar(x, "A=aA|bA|cA|dA|eA|fA|gA|h");
        Check.equal("all signs", x.count(8), 255);
    }

    static void promise39ChangesNothing() {
        Untouched.by("another what", -1, x -> x.count(9));
        Untouched.by("signs of sentences", 7, x -> x.count(8));
    }

    static void promise40NothingTold() {
        PiecesThatFit x = new PiecesThatFit();
        Check.throwsNoSuch("the first", () -> x.row(0));
        Check.throwsNoSuch("below 0", () -> x.row(-1));
        x.report();
        Check.throwsNoSuch("nothing is told", () -> x.row(0));
    }

    static void promise40NoneSuch() {
        PiecesThatFit x = new PiecesThatFit();
        x.longest();
        Check.equal("the first", x.row(0), 0);
        Check.equal("the last", x.row(1), 2);
        int[] others = {2, -1, MIN, MAX};
        for (int i : others) {
            Check.throwsNoSuch("row(" + i + ")", () -> x.row(i));
        }
        x.needed();
        Check.equal("another", x.row(0), 0);
        Check.throwsNoSuch("of an older ROW", () -> x.row(1));
    }

    static void promise40FullRow() {
        PiecesThatFit x = Check.object("A=bab", "aaaaaaaaaaaaaa");
        Check.equal("fifteen pieces", x.least(), 15);
        for (int i = 0; i < 15; i++) {
            Check.equal("i", x.row(2 * i), i);
            Check.equal("j", x.row(2 * i + 1), i + 2);
        }
        Check.throwsNoSuch("behind them", () -> x.row(30));
        Check.throwsNoSuch("behind them", () -> x.row(31));
    }

    static void promise40BelowZero() {
        PiecesThatFit x = Check.object("A=a", "a");
        x.without(1);
        Check.equal("a number below 0", x.row(0), -1);
    }

    static void promise40ThrowingChangesNothing() {
        Untouched.by("none such", Untouched.THROWS, x -> x.row(2));
        Untouched.by("none such", Untouched.THROWS, x -> x.row(-1));
        Untouched.by("there is one", 3, x -> x.row(1));
    }
}
