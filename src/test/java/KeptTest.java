/** Promises 37 to 40, and what is said of the ROW and of refused calls. */
public final class KeptTest {
    public static void main(String[] args) {
        keepAndAgain();
        keptStays();
        count();
        row();
        rowStays();
        textStays();
        Check.finish();
    }

    private static void keepAndAgain() {
        PiecesThatFit x = Check.object("A=a|b", "ab");
        Check.brackets(x, "ab");
        Check.isFalse("nothing kept", x.again(0));
        Check.isFalse("no number", x.keep(2));
        Check.isFalse("no number", x.keep(-1));
        Check.isTrue("kept", x.keep(0));
        Check.isFalse("nothing kept there", x.again(1));
        Check.isFalse("no number", x.again(2));
        Check.isFalse("no number", x.again(-1));
        Check.grammar(x, "B=c");
        Check.line(x, "c");
        Check.brackets(x, "");
        Check.isTrue("kept", x.keep(1));
        Check.isTrue("again", x.again(0));
        Check.equal("line", Check.lineOf(x), "ab");
        Check.equal("pairs", x.count(4), 1);
        Check.equal("grammar", x.count(1), 2);
        Check.equal("START", x.count(3), 0);
        Check.equal("nothing to undo", x.count(5), 0);
        Check.isTrue("again", x.again(1));
        Check.equal("line", Check.lineOf(x), "c");
        Check.equal("pairs", x.count(4), 0);
        Check.equal("START", x.count(3), 1);
        Check.equal("a sentence", x.sentence(), 1);
    }

    private static void keptStays() {
        PiecesThatFit x = Check.object("A=a", "a");
        x.keep(0);
        x.becomes(1, 1);
        x.again(0);
        Check.equal("changes do not reach it", Check.lineOf(x), "a");
        x.becomes(1, 2);
        x.again(0);
        Check.equal("nor those behind again()", Check.lineOf(x), "a");
        x.becomes(1, 2);
        x.keep(0);
        x.undo();
        x.again(0);
        Check.equal("kept anew; undo does not reach it", Check.lineOf(x), "c");
    }

    private static void count() {
        PiecesThatFit x = Check.object("C=aD|;D=bC|g;A=h", "aba");
        Check.brackets(x, "abcd");
        x.report();
        x.sign(0);
        int[] due = {3, 5, 13, 2, 2, 3, 2, 4, 67};
        for (int what = 0; what < due.length; what++) {
            Check.equal("count(" + what + ")", x.count(what), due[what]);
        }
        Check.equal("another what", x.count(9), -1);
        Check.equal("another what", x.count(-1), -1);
    }

    private static void row() {
        PiecesThatFit x = Check.object("A=aAb|", "abab");
        Check.throwsNoSuch("nothing told", () -> x.row(0));
        x.report();
        Check.equal("i", x.row(0), 2);
        Check.equal("j", x.row(1), 4);
        Check.throwsNoSuch("behind", () -> x.row(2));
        Check.throwsNoSuch("below 0", () -> x.row(-1));
        Check.throwsNoSuch("far", () -> x.row(Integer.MAX_VALUE));
        x.wide(1);
        Check.throwsNoSuch("an empty one", () -> x.row(0));
        x.line();
        x.grammar();
        x.report();
        Check.throwsNoSuch("none told", () -> x.row(0));
    }

    private static void rowStays() {
        PiecesThatFit x = Check.object("A=aAb|", "abab");
        x.longest();
        String row = "0 3";
        Check.equal("told", Check.rowOf(x), row);
        x.fits(0, 1);
        x.onwards(0);
        x.back(0);
        x.sentence();
        x.yields(0, 0, 1, 1);
        x.capital(0, 0);
        x.symbol(0, 0);
        x.at(1);
        Check.line(x, "aabc");
        Check.grammar(x, "A=aAb|c");
        Check.brackets(x, "ab");
        Check.brackets(x, "a");
        x.sheet(0, 3, 0, 0);
        x.becomes(1, 1);
        x.comes(1, 1);
        x.goes(1);
        x.undo();
        x.keep(0);
        x.again(0);
        x.count(8);
        Check.equal("calls that do not tell of it", Check.rowOf(x), row);
        x.next(9, 9);
        x.ahead(9, 9);
        x.mate(1);
        x.mate(9);
        x.without(9);
        x.wide(0);
        x.sentences(9);
        x.apart(0, 5);
        x.apart(1, 5);
        x.apart(9, 5);
        x.years(0, 0);
        Check.equal("refused ones, and none there", Check.rowOf(x), row);
        x.sheet(3, 0, 0, 0);
        x.blames();
        Check.equal("an empty line has none to blame", Check.rowOf(x), row);
        Check.line(x, "h");
        x.weakest();
        x.next(1, 2);
        x.ahead(1, 2);
        Check.day(x, "d");
        Check.equal("what does not fit", Check.rowOf(x), row);
    }

    private static void textStays() {
        PiecesThatFit x = new PiecesThatFit();
        x.sign(0x41414141);
        x.report();
        x.undo();
        x.keep(0);
        x.again(0);
        x.sheet(0, 1, 1, 1);
        x.becomes(1, 1);
        Check.equal("calls that do not read it", x.count(7), 4);
        x.line();
        Check.equal("a refused one that reads it", x.count(7), 0);
    }
}
