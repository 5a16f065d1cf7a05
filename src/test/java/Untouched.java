import java.util.NoSuchElementException;

/**
 * Sees whether a call leaves an object as it was: of two objects that are made alike one is called, then both are
 * asked for all that they hold. What can be undone and what is kept is seen by undoing it and by taking it again, on
 * objects of their own, so that none is used for more than 512 calls.
 */
final class Untouched {
    private Untouched() {
    }

    interface Maker {
        PiecesThatFit make();
    }

    interface Act {
        long on(PiecesThatFit x);
    }

    /** With something of each sort: lines, brackets, what can be undone, what is kept, a ROW and a TEXT. */
    static PiecesThatFit rich() {
        PiecesThatFit x = new PiecesThatFit();
        Check.grammar(x, "B=bc|d");
        Check.line(x, "bcd");
        x.keep(1);
        Check.grammar(x, "A=aAb|c|;C=cC");
        Check.line(x, "acdbhb");
        Check.brackets(x, "abcd");
        x.comes(3, 4);
        x.longest();
        Check.type(x, "hgf");
        return x;
    }

    /** A refused call: the same answer each time, and nothing is changed. */
    static void by(String what, long answer, Act act) {
        by(what, Untouched::rich, answer, act);
    }

    static void by(String what, Maker maker, long answer, Act act) {
        same(what, maker, answer, act, true, true);
    }

    /** A refused call that reads THE TEXT: this is empty then, and nothing else is changed. */
    static void butText(String what, long answer, Act act) {
        same(what, Untouched::rich, answer, act, true, false);
    }

    /** A question that tells a ROW: nothing else is changed. */
    static void butRow(String what, long answer, Act act) {
        butRow(what, Untouched::rich, answer, act);
    }

    static void butRow(String what, Maker maker, long answer, Act act) {
        same(what, maker, answer, act, false, true);
    }

    private static void same(String what, Maker maker, long answer, Act act, boolean row, boolean text) {
        PiecesThatFit x = maker.make();
        Check.equal(what, answerOf(x, act), answer);
        PiecesThatFit y = maker.make();
        if (row) {
            Check.equal(what + ": the ROW stays", Check.rowOf(x), Check.rowOf(y));
        }
        Check.equal(what + ": the GRAMMAR, THE LINE, BRACKETS stay", deskOf(x), deskOf(y));
        if (text) {
            Check.equal(what + ": THE TEXT stays", textOf(x), textOf(y));
        } else {
            Check.equal(what + ": THE TEXT is empty", x.count(7), 0);
        }
        x = maker.make();
        answerOf(x, act);
        Check.equal(what + ": what can be undone stays", undoneOf(x), undoneOf(maker.make()));
        x = maker.make();
        answerOf(x, act);
        Check.equal(what + ": what is kept stays", keptOf(x), keptOf(maker.make()));
    }

    /** What the calls that throw answer here. */
    static final long THROWS = 1L << 40;

    private static long answerOf(PiecesThatFit x, Act act) {
        try {
            return act.on(x);
        } catch (NoSuchElementException e) {
            return THROWS;
        }
    }

    private static String deskOf(PiecesThatFit x) {
        StringBuilder b = new StringBuilder();
        for (int what = 0; what <= 8; what++) {
            b.append(what == 6 || what == 7 ? 0 : x.count(what)).append(' ');
        }
        b.append(Check.lineOf(x)).append(' ').append(Check.symbolsOf(x));
        for (int c = 0; c < 6; c++) {
            b.append(x.capital(c, 0)).append(' ');
        }
        return b.append(matesOf(x)).toString();
    }

    /** Which signs are BRACKETS is seen by their mates alone. */
    private static String matesOf(PiecesThatFit x) {
        StringBuilder b = new StringBuilder();
        for (int p = 1; p <= x.count(0); p++) {
            b.append(x.mate(p)).append(' ');
        }
        return b.toString();
    }

    /** Of a TEXT that could be a line. */
    private static String textOf(PiecesThatFit x) {
        int size = x.count(7);
        int answer = x.line();
        return size + " " + answer + " " + Check.lineOf(x);
    }

    private static String undoneOf(PiecesThatFit x) {
        StringBuilder b = new StringBuilder();
        for (int k = 0; k <= 10; k++) {
            b.append(x.undo()).append(": ").append(k < 5 ? deskOf(x) : Check.lineOf(x)).append("; ");
        }
        return b.toString();
    }

    private static String keptOf(PiecesThatFit x) {
        StringBuilder b = new StringBuilder();
        for (int i = 0; i < 2; i++) {
            b.append(x.again(i)).append(": ").append(deskOf(x)).append("; ");
        }
        return b.toString();
    }
}
