/** Promises 28 to 30. */
public final class GrammarTest {
    public static void main(String[] args) {
        capital();
        capitalReached();
        capitalOfLongSentences();
        sentences();
        sentencesTooMany();
        apart();
        apartRefused();
        Check.finish();
    }

    private static void capital() {
        PiecesThatFit x = Check.object("A=aB|b;B=bBc|D;C=c|A;D=|dD;E=eE|F;F=Ef", "abc");
        int[][] due = {
            {2, 2, 2, 2, 2, 1},
            {1, 1, 1, 1, 0, 0},
            {1, 1, 0, 1, 0, 0},
            {0, 1, 0, 1, 0, 0},
            {1, 0, 1, 0, -2, -2},
            {3, 10, 7, 8, -2, -2},
            {15, 12, 15, 8, -2, -2},
            {15, 14, 15, 8, -2, -2}};
        x.wide(1);
        x.report();
        String row = Check.rowOf(x);
        for (int what = 0; what < due.length; what++) {
            for (int c = 0; c < 6; c++) {
                Check.equal("capital(" + c + ", " + what + ")", x.capital(c, what), due[what][c]);
            }
        }
        Check.equal("the ROW stays", Check.rowOf(x), row);
        Check.equal("another what", x.capital(0, -1), -1);
        Check.equal("another what", x.capital(0, 8), -1);
        Check.equal("another what of one that yields nothing", x.capital(4, 8), -1);
        Check.equal("no such capital", x.capital(-1, 0), -1);
        Check.equal("no such capital", x.capital(6, 0), -1);
        Check.grammar(x, "B=b");
        Check.equal("no A", x.capital(0, 0), -1);
        Check.equal("no A", x.capital(0, 4), -1);
        Check.equal("B", x.capital(1, 4), 1);
    }

    private static void capitalReached() {
        PiecesThatFit x = Check.object("A=a|BC;B=bB;C=c|D;D=d;E=A", "");
        int[] reached = {1, 1, 1, 1, 0};
        for (int c = 0; c < 5; c++) {
            Check.equal("by rows that yield nothing, too", x.capital(c, 2), reached[c]);
        }
        Check.equal("but signs are those of what is yielded", x.capital(0, 7), 1);
        Check.equal("signs that sentences have", x.count(8), 1);
        Check.grammar(x, "B=AaA;A=|b|c");
        Check.equal("A may yield no sign: a, b, c begin", x.capital(1, 5), 7);
        Check.equal("and end", x.capital(1, 6), 7);
        Check.grammar(x, "D=A|ab;A=B|ab;B=C;C=b");
        Check.equal("b begins it, found late", x.capital(3, 5), 3);
        Check.grammar(x, "D=A|ba;A=B|ba;B=C;C=b");
        Check.equal("b ends it, found late", x.capital(3, 6), 3);
        Check.grammar(x, "F=E;E=;A=F");
        Check.equal("START itself", x.capital(5, 2), 1);
        Check.equal("E of START", x.capital(4, 2), 1);
        Check.equal("A is not of START", x.capital(0, 2), 0);
        Check.equal("nothing begins", x.capital(5, 5), 0);
    }

    private static void capitalOfLongSentences() {
        PiecesThatFit x = Check.object("A=BBBB;B=CCCC;C=DDDD;D=EEEE;E=FFFF;F=aaah|A", "");
        Check.equal("4096", x.capital(0, 4), 4096);
        Check.equal("4", x.capital(5, 4), 4);
        Check.equal("begins", x.capital(0, 5), 1);
        Check.equal("ends", x.capital(0, 6), 128);
        Check.equal("in it", x.capital(0, 7), 129);
    }

    private static void sentences() {
        PiecesThatFit x = Check.object("A=aA|b|", "ab");
        Check.tells("none but the empty one", x, x.sentences(0), 1, "");
        Check.tells("a, b", x, x.sentences(1), 2, "0");
        Check.tells("aaa, aab", x, x.sentences(3), 2, "0 0 0");
        Check.tells("of five", x, x.sentences(5), 2, "0 0 0 0 0");
        Check.tells("another n", x, x.sentences(6), -1, "0 0 0 0 0");
        Check.tells("another n", x, x.sentences(-1), -1, "0 0 0 0 0");
        Check.grammar(x, "A=AA|a|A");
        Check.tells("counted once", x, x.sentences(4), 1, "0 0 0 0");
        Check.tells("no empty one", x, x.sentences(0), 0, "");
        Check.grammar(x, "A=hg|gh|bb");
        Check.tells("the first by the alphabet", x, x.sentences(2), 3, "1 1");
        Check.tells("none", x, x.sentences(1), 0, "");
        Check.grammar(x, "A=");
        Check.tells("without signs", x, x.sentences(5), 0, "");
        Check.tells("without signs", x, x.sentences(0), 1, "");
        Check.equal("the line is as it was", Check.lineOf(x), "ab");
    }

    private static void sentencesTooMany() {
        PiecesThatFit x = Check.object("A=|aA|bA|cA|dA", "");
        Check.tells("256 rows", x, x.sentences(4), 256, "0 0 0 0");
        Check.tells("1,024 rows", x, x.sentences(5), -2, "0 0 0 0");
        Check.tells("another n first", x, x.sentences(6), -1, "0 0 0 0");
        Check.grammar(x, "A=|aA|bA|cA|dA|eA|fA|gA|hA");
        Check.tells("512 rows", x, x.sentences(3), 512, "0 0 0");
        Check.equal("4,096 rows", x.sentences(4), -2);
        Check.grammar(x, "A=a;B=abcd|efgh");
        Check.equal("signs of sentences alone", x.sentences(5), 0);
        Check.equal("signs of sentences alone", x.sentences(1), 1);
    }

    private static void apart() {
        PiecesThatFit x = Check.object("A=aA|", "b");
        x.keep(0);
        x.report();
        Check.grammar(x, "A=Aa|");
        Check.tells("no difference", x, x.apart(0, 5), -2, "1 2");
        Check.grammar(x, "A=aA|a");
        Check.tells("the empty one is of the kept one", x, x.apart(0, 0), 0, "0");
        Check.grammar(x, "A=aA|b|");
        Check.tells("b is of the new one", x, x.apart(0, 5), 1, "1 1");
        Check.tells("not so short", x, x.apart(0, 0), -2, "1 1");
        Check.grammar(x, "A=|ab|b");
        x.keep(1);
        Check.grammar(x, "A=|b|ba");
        Check.tells("ab comes ahead of ba", x, x.apart(1, 4), 2, "0 1 0");
        Check.tells("the other one's", x, x.apart(0, 4), 1, "0 0");
        Check.equal("the line is as it was", Check.lineOf(x), "b");
    }

    private static void apartRefused() {
        PiecesThatFit x = Check.object("A=aA|bA|cA|dA|", "");
        Check.equal("nothing kept", x.apart(0, 5), -3);
        Check.equal("NONE first", x.apart(0, 6), -1);
        Check.equal("NONE first", x.apart(0, -1), -1);
        Check.equal("no number", x.apart(2, 0), -1);
        Check.equal("no number", x.apart(-1, 0), -1);
        x.keep(1);
        Check.equal("nothing kept there", x.apart(0, 1), -3);
        Check.equal("4 to the 5th", x.apart(1, 5), -4);
        Check.equal("4 to the 4th", x.apart(1, 4), -2);
        Check.grammar(x, "A=eA|fA|gA|hA|a");
        Check.equal("8 to the 4th, of both", x.apart(1, 4), -4);
        Check.tells("8 to the 3rd", x, x.apart(1, 3), 0, "0");
    }
}
