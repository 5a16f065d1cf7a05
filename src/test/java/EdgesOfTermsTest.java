/** What the document says ahead of its promises, where it names an edge; what a single call answers is tested there. */
public final class EdgesOfTermsTest {
    private static final String FULL_LINE = "aaaaaaaaaaaaaa";

    public static void main(String[] args) {
        Check.runAll(EdgesOfTermsTest.class);
    }

    static void terms512Calls() {
        PiecesThatFit x = new PiecesThatFit();
        for (int k = 0; k < 127; k++) {
            x.comes(1, 0);
            x.comes(2, 1);
            x.goes(1);
            x.becomes(1, k % 2);
        }
        Check.equal("the 509th call: one comes and goes, one more comes till there are 14", x.count(0), 13);
        Check.equal("the 510th", x.count(5), 10);
        Check.equal("the 511th", x.report(), 13);
        Check.equal("the 512th", x.row(25), 14);
        PiecesThatFit y = new PiecesThatFit();
        for (int k = 0; k < 511; k++) {
            y.years(k, 20);
        }
        Check.equal("the 512th", y.longest(), 2);
    }

    static void termsFirstGrammarAndLine() {
        PiecesThatFit x = new PiecesThatFit();
        Check.equal("one alternative", x.count(1), 1);
        Check.equal("of A", x.capital(0, 0), 1);
        Check.equal("START is A", x.count(3), 0);
        Check.throwsNoSuch("without symbols", () -> x.symbol(0, 0));
        Check.equal("an empty line", x.count(0), 0);
        Check.equal("no brackets", x.count(4), 0);
    }

    static void termsAlternativesAreNumbered() {
        PiecesThatFit x = Check.object("C=c|d;A=a;B=|b", "");
        Check.equal("as they are told", Check.symbolsOf(x), "c d a  b ");
        Check.equal("START is that of the first rule", x.count(3), 2);
    }

    static void termsStartIsNotReached() {
        PiecesThatFit x = Check.object("C=a;A=C|b", "b");
        Check.equal("b is of A, not of START", x.sentence(), 0);
        Check.line(x, "a");
        Check.equal("a is", x.sentence(), 1);
    }

    static void termsYieldsOnAndOn() {
        PiecesThatFit x = Check.object("A=B;B=C;C=D;D=E;E=F;F=a", "a");
        Check.equal("by six", x.sentence(), 1);
        Check.grammar(x, "F=a;E=F;D=E;C=D;B=C;A=B");
        Check.equal("A, told last", x.yields(0, 0, 1, 2), 1);
        Check.grammar(x, "A=A|B|;B=A|a");
        Check.equal("round on round", x.sentence(), 1);
        Check.line(x, "aa");
        Check.equal("one a at most", x.sentence(), 0);
    }

    static void termsPlaces() {
        PiecesThatFit x = Check.object("A=ab", "ab");
        Check.equal("^ a", x.fits(0, 2), 1);
        Check.equal("b $", x.fits(2, 4), 1);
        Check.equal("a at 1", x.at(1), 0);
        Check.equal("b at n", x.at(2), 1);
        Check.throwsNoSuch("^ is no sign", () -> x.at(0));
        Check.throwsNoSuch("$ is no sign", () -> x.at(3));
    }

    static void termsFitsForSomeSentence() {
        PiecesThatFit x = Check.object("A=ab|bc", "abc");
        Check.equal("ab of one", x.fits(1, 3), 1);
        Check.equal("bc of another", x.fits(2, 4), 1);
        Check.equal("abc of none", x.fits(1, 4), 0);
        Check.equal("^ab of one", x.fits(0, 3), 1);
        Check.equal("ab$ of the same", Check.object("A=ab|bc", "ab").fits(0, 4), 1);
    }

    static void termsReportedOnesDoNotOverlap() {
        PiecesThatFit x = Check.object("A=bab", FULL_LINE);
        Check.tells("from the left", x, x.report(), 8, "0 2 2 4 4 6 6 8 8 10 10 12 12 14 14 16");
        Check.tells("from the right", x, x.backwards(), 8, "0 2 2 4 4 6 6 8 8 10 10 12 12 14 14 16");
        x.goes(1);
        Check.tells("from the left", x, x.report(), 7, "0 2 2 4 4 6 6 8 8 10 10 12 12 14");
        Check.tells("from the right", x, x.backwards(), 7, "1 3 3 5 5 7 7 9 9 11 11 13 13 15");
    }

    static void termsBracketsAtFirstNone() {
        PiecesThatFit x = Check.object("A=", "ab");
        Check.equal("none", x.count(4), 0);
        Check.equal("no mate", x.mate(1), -2);
    }

    static void termsLedBehindTheClosingOne() {
        PiecesThatFit x = Check.object("A=cAd|e", "cadad", "cd");
        // behind d at 3: a at 4 is asked anew; d at 5 has no mate
        Check.tells("p is the place behind it", x, x.led(), 2, "2 3 4 5");
        Check.line(x, "cad");
        Check.tells("behind n", x, x.led(), 1, "2 3");
    }

    static void termsChangesNeeded() {
        PiecesThatFit x = Check.object("A=abcd", "badc");
        Check.equal("a sign moves no way at once", x.needed(), 3);
        Check.line(x, "aabbccdd");
        Check.equal("four go", x.needed(), 4);
        Check.line(x, "efgh");
        Check.equal("four become others", x.needed(), 4);
    }

    static void termsSetsAreBits() {
        PiecesThatFit x = Check.object("A=a|h", "");
        Check.equal("a is 1, h is 128", x.next(0, 1), 129);
        Check.equal("$ is 256", x.next(0, 0), 256 + 129);
        Check.equal("^ is 256", x.ahead(0, 0), 256 + 129);
        Check.grammar(x, "A=;F=");
        Check.equal("A is 1, F is 32", x.count(2), 33);
    }

    static void termsNoneAheadOfOthersBelowZero() {
        PiecesThatFit x = Check.object("A=a;B=B", FULL_LINE);
        Check.equal("sheet: not -2", x.sheet(4, -1, 0, 0), -1);
        Check.equal("sheet: not -3", x.sheet(3, 15, 0, 0), -1);
        Check.equal("next: not -2", x.next(2, 1), -1);
        Check.equal("ahead: not -2", x.ahead(0, 17), -1);
        Check.equal("mate: not -2", x.mate(15), -1);
        Check.equal("capital: not -2", x.capital(1, 8), -1);
        Check.equal("capital: not -2", x.capital(2, 4), -1);
        Check.equal("sentences: not -2", x.sentences(6), -1);
        Check.equal("apart: not -3", x.apart(0, 6), -1);
        Check.equal("apart: not -3", x.apart(2, 5), -1);
        Check.equal("becomes: not -2", x.becomes(15, 0), -1);
        Check.equal("comes: not -3", x.comes(16, 0), -1);
        Check.equal("comes: not -3", x.comes(1, 8), -1);
    }

    static void termsRowStays() {
        PiecesThatFit x = Check.object("A=aAb|;B=B", "hab");
        x.longest();
        String row = Check.rowOf(x);
        Check.equal("told", row, "2 5");
        long[] answers = {x.next(9, 9), x.next(1, 2), x.ahead(9, 9), x.ahead(1, 2), x.mate(9), x.mate(1), x.without(9),
            x.weakest(), x.wide(9), x.sentences(9), x.apart(9, 9), x.apart(0, 5), x.years(0, 0), x.becomes(9, 9),
            x.comes(9, 9), x.goes(9), x.sheet(9, 0, 0, 0), x.capital(1, 4), x.fits(9, 9), x.onwards(9), x.back(9),
            x.yields(9, 0, 0, 0), x.count(9)};
        for (long answer : answers) {
            Check.isTrue("a refusal, or there is none", answer < 0);
        }
        Check.equal("it stays", Check.rowOf(x), row);
        x.grammar();
        x.brackets();
        x.keep(0);
        x.apart(0, 5);
        x.becomes(1, 1);
        x.comes(1, 1);
        x.goes(1);
        x.undo();
        x.again(0);
        x.sheet(0, 2, 0, 1);
        x.sheet(3, 0, 0, 0);
        x.blames();
        x.line();
        Check.day(x, "x");
        Check.equal("it stays", Check.rowOf(x), row);
    }

    static void termsRowOfNothing() {
        PiecesThatFit x = new PiecesThatFit();
        x.longest();
        Check.tells("no pieces", x, x.report(), 0, "");
        x.longest();
        Check.tells("no pieces", x, x.backwards(), 0, "");
        x.longest();
        Check.tells("no pieces", x, x.led(), 0, "");
        x.longest();
        Check.tells("no pieces", x, x.least(), 0, "");
        x.longest();
        Check.tells("all do", x, x.wide(1), 2, "");
        x.longest();
        Check.tells("no sentence", x, x.sentences(3), 0, "");
    }

    static void termsTextIsEmptied() {
        String[] texts = {"", "A=a", "ab", "d01", "!"};
        for (String text : texts) {
            PiecesThatFit x = Check.object("A=", "ab");
            Check.type(x, text);
            x.grammar();
            Check.equal("by grammar() of " + text, x.count(7), 0);
            Check.type(x, text);
            x.line();
            Check.equal("by line() of " + text, x.count(7), 0);
            Check.type(x, text);
            x.brackets();
            Check.equal("by brackets() of " + text, x.count(7), 0);
            Check.type(x, text);
            x.day();
            Check.equal("by day() of " + text, x.count(7), 0);
        }
    }

    static void termsQuestionsChangeNothing() {
        Untouched.butRow("all of them", 0, x -> {
            x.fits(0, 9);
            x.onwards(0);
            x.back(9);
            x.sentence();
            x.next(0, 3);
            x.ahead(7, 9);
            x.yields(0, 3, 1, 8);
            x.report();
            x.backwards();
            x.led();
            x.least();
            x.mate(1);
            x.needed();
            x.without(3);
            x.blames();
            x.longest();
            x.weakest();
            x.wide(2);
            x.capital(0, 7);
            x.sentences(5);
            x.apart(1, 4);
            x.years(77, 20);
            x.count(8);
            return 0;
        });
    }
}
