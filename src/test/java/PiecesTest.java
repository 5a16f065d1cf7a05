/** Promises 10 to 16. */
public final class PiecesTest {
    public static void main(String[] args) {
        fits();
        fitsOfLongSentences();
        fitsOfGrammarsAlike();
        onwardsAndBack();
        sentence();
        next();
        ahead();
        neighboursOfEmptyPieces();
        yields();
        yieldsOfNothing();
        Check.finish();
    }

    private static void fits() {
        // sentences: a b c, a c
        PiecesThatFit x = Check.object("A=aBc;B=b|", "abcb");
        int[][] good = {{0, 0}, {0, 1}, {0, 4}, {1, 4}, {2, 4}, {4, 4}, {5, 6}, {6, 6}, {4, 5}};
        for (int[] p : good) {
            Check.equal("(" + p[0] + ", " + p[1] + ") fits", x.fits(p[0], p[1]), 1);
        }
        int[][] bad = {{0, 5}, {3, 5}, {2, 5}, {4, 6}, {0, 6}};
        for (int[] p : bad) {
            Check.equal("(" + p[0] + ", " + p[1] + ") does not fit", x.fits(p[0], p[1]), 0);
        }
        int[][] none = {{-1, 0}, {1, 0}, {0, 7}, {7, 7}, {Integer.MIN_VALUE, Integer.MAX_VALUE}};
        for (int[] p : none) {
            Check.equal("no piece", x.fits(p[0], p[1]), -1);
        }
        PiecesThatFit y = new PiecesThatFit();
        Check.equal("^$", y.fits(0, 2), 1);
        Check.grammar(y, "A=a");
        Check.equal("^$ no more", y.fits(0, 2), 0);
        Check.equal("^", y.fits(0, 1), 1);
        Check.equal("$", y.fits(1, 2), 1);
    }

    private static void fitsOfLongSentences() {
        // one sentence, of 4096 signs
        PiecesThatFit x = Check.object("A=BBBB;B=CCCC;C=DDDD;D=EEEE;E=FFFF;F=aaab", "abaaabaaabaaab");
        Check.equal("within", x.fits(1, 15), 1);
        Check.equal("not as the beginning", x.fits(0, 15), 0);
        Check.equal("as the end", x.fits(2, 16), 1);
        Check.equal("ab after ^", x.fits(0, 3), 0);
        Check.equal("a after ^", x.fits(0, 2), 1);
        Check.line(x, "baabaaab");
        Check.equal("two a between", x.fits(1, 5), 0);
        Check.equal("aab without the b ahead", x.fits(2, 9), 1);
        Check.equal("unreached capitals do not help", Check.object("A=a;B=b", "b").fits(1, 2), 0);
        Check.equal("what can't end does not help", Check.object("A=a|bB;B=bB", "b").fits(1, 2), 0);
    }

    /** Of the same shape, with other signs: what was found of the one must not be told of the other. */
    private static void fitsOfGrammarsAlike() {
        PiecesThatFit x = Check.object("A=ab|a", "ab");
        Check.equal("ab", x.fits(0, 4), 1);
        Check.equal("behind a", x.next(1, 2), 258);
        Check.equal("ahead of b", x.ahead(2, 3), 1);
        Check.grammar(x, "A=bc|b");
        Check.equal("ab no more", x.fits(0, 4), 0);
        Check.equal("a no more", x.next(1, 2), -2);
        Check.equal("ahead of b", x.ahead(2, 3), 256);
        Check.equal("signs", x.count(8), 6);
        Check.grammar(x, "A=abc|");
        Check.equal("ahead of b", x.ahead(2, 3), 1);
        Check.grammar(x, "A=cba|");
        Check.equal("ahead of b", x.ahead(2, 3), 4);
        x.undo();
        Check.equal("ahead of b", x.ahead(2, 3), 1);
        Check.grammar(x, "A=a;B=b");
        Check.equal("A", x.sentence(), 0);
        Check.grammar(x, "B=a;A=b");
        Check.equal("B is START now", x.capital(1, 2), 1);
        Check.equal("A is not", x.capital(0, 2), 0);
    }

    private static void onwardsAndBack() {
        PiecesThatFit x = Check.object("A=aAb|", "aabab");
        int[] onwards = {4, 4, 4, 4, 7, 7, 7, 7};
        int[] back = {0, 0, 0, 0, 0, 4, 4, 4};
        for (int k = 0; k <= 7; k++) {
            Check.equal("onwards(" + k + ")", x.onwards(k), onwards[k]);
            Check.equal("back(" + k + ")", x.back(k), back[k]);
        }
        Check.equal("onwards", x.onwards(-1), -1);
        Check.equal("onwards", x.onwards(8), -1);
        Check.equal("back", x.back(-1), -1);
        Check.equal("back", x.back(8), -1);
        PiecesThatFit y = Check.object("A=a", "b");
        Check.equal("nothing on", y.onwards(1), 1);
        Check.equal("nothing back", y.back(2), 2);
    }

    private static void sentence() {
        PiecesThatFit x = Check.object("A=aAb|", "aabb");
        Check.equal("aabb", x.sentence(), 1);
        Check.line(x, "aab");
        Check.equal("aab", x.sentence(), 0);
        Check.line(x, "");
        Check.equal("empty", x.sentence(), 1);
        Check.grammar(x, "B=C|BC;C=aCb|ab");
        Check.equal("empty no more", x.sentence(), 0);
        Check.line(x, "ababaabb");
        Check.equal("ab ab aabb", x.sentence(), 1);
        Check.grammar(x, "A=A|AA|a");
        Check.line(x, "aaaaaaaaaaaaaa");
        Check.equal("fourteen a", x.sentence(), 1);
    }

    private static void next() {
        // sentences: a b c, a c
        PiecesThatFit x = Check.object("A=aBc;B=b|", "abcd");
        Check.tells("behind ^", x, x.next(0, 1), 1, "1");
        Check.tells("behind a", x, x.next(1, 2), 6, "2");
        Check.tells("behind c", x, x.next(3, 4), 256, "1");
        Check.tells("behind ^ab", x, x.next(0, 3), 4, "1");
        Check.tells("behind $", x, x.next(5, 6), 0, "0");
        x.next(1, 2);
        Check.tells("d does not fit", x, x.next(4, 5), -2, "2");
        Check.tells("no piece", x, x.next(2, 1), -1, "2");
        Check.tells("no piece", x, x.next(0, 7), -1, "2");
        Check.equal("the line is the same", x.fits(1, 4), 1);
    }

    private static void ahead() {
        PiecesThatFit x = Check.object("A=aBc;B=b|", "abcd");
        Check.tells("ahead of a", x, x.ahead(1, 2), 256, "1");
        Check.tells("ahead of c", x, x.ahead(3, 4), 3, "2");
        Check.tells("ahead of bc", x, x.ahead(2, 4), 1, "1");
        Check.tells("ahead of $", x, x.ahead(5, 6), 4, "1");
        Check.tells("ahead of ^", x, x.ahead(0, 1), 0, "0");
        Check.tells("ahead of ^ab", x, x.ahead(0, 3), 0, "0");
        Check.tells("d does not fit", x, x.ahead(4, 5), -2, "0");
        Check.tells("no piece", x, x.ahead(-1, 1), -1, "0");
        Check.tells("no piece", x, x.ahead(7, 7), -1, "0");
        PiecesThatFit y = new PiecesThatFit();
        Check.tells("ahead of $", y, y.ahead(1, 2), 256, "1");
        Check.tells("behind ^", y, y.next(0, 1), 256, "1");
    }

    private static void neighboursOfEmptyPieces() {
        PiecesThatFit x = Check.object("A=aAb|c", "abababababaaaa");
        for (int i = 0; i <= 16; i++) {
            Check.tells("behind nothing", x, x.next(i, i), 256 + 7, "4");
            Check.tells("ahead of nothing", x, x.ahead(i, i), 256 + 7, "4");
        }
        PiecesThatFit y = Check.object("A=aA|", "aaaaaaaaaaaaaa");
        Check.tells("behind a whole line", y, y.next(0, 16), 0, "0");
        Check.tells("behind all its signs", y, y.next(0, 15), 257, "2");
        Check.tells("ahead of all its signs", y, y.ahead(1, 16), 257, "2");
    }

    private static void yields() {
        PiecesThatFit x = Check.object("A=aB|Cc;B=bb|;C=cC|d", "abbcd");
        Check.equal("A: a b b", x.yields(0, 0, 1, 4), 1);
        Check.equal("A: a", x.yields(0, 0, 1, 2), 1);
        Check.equal("A: a b is not whole", x.yields(0, 0, 1, 3), 0);
        Check.equal("A: a b begins", x.yields(0, 1, 1, 3), 1);
        Check.equal("A: c d begins", x.yields(0, 1, 4, 6), 1);
        Check.equal("A: b does not begin", x.yields(0, 1, 2, 3), 0);
        Check.equal("A: b b does not begin", x.yields(0, 1, 2, 4), 0);
        Check.equal("A: c d does not end", x.yields(0, 2, 4, 6), 0);
        Check.equal("C: c d whole", x.yields(2, 0, 4, 6), 1);
        Check.equal("C: d ends", x.yields(2, 2, 5, 6), 1);
        Check.equal("C: c does not end", x.yields(2, 2, 4, 5), 0);
        Check.equal("A: c ends", x.yields(0, 2, 4, 5), 1);
        Check.equal("A: b ends", x.yields(0, 2, 3, 4), 1);
        Check.equal("A: b b is in it", x.yields(0, 3, 2, 4), 1);
        Check.equal("A: b c is not", x.yields(0, 3, 3, 5), 0);
        Check.equal("B: nothing", x.yields(1, 0, 2, 2), 1);
        Check.equal("A: nothing is not whole", x.yields(0, 0, 2, 2), 0);
        Check.equal("A: nothing begins", x.yields(0, 1, 0, 0), 1);
        Check.equal("A: nothing ends", x.yields(0, 2, 7, 7), 1);
        Check.equal("another sort", x.yields(0, 4, 1, 2), -1);
        Check.equal("another sort", x.yields(0, -1, 1, 2), -1);
        Check.equal("no D", x.yields(3, 0, 1, 2), -1);
        Check.equal("no such capital", x.yields(-1, 0, 1, 2), -1);
        Check.equal("no such capital", x.yields(6, 0, 1, 2), -1);
        Check.equal("with ^", x.yields(0, 0, 0, 1), -1);
        Check.equal("with $", x.yields(0, 0, 6, 7), -1);
        Check.equal("no piece", x.yields(0, 0, 2, 1), -1);
        Check.equal("no piece", x.yields(0, 0, 8, 8), -1);
    }

    private static void yieldsOfNothing() {
        PiecesThatFit x = Check.object("A=a;B=bB;C=c", "bc");
        for (int sort = 0; sort <= 3; sort++) {
            Check.equal("B yields nothing", x.yields(1, sort, 1, 1), 0);
            Check.equal("B yields nothing", x.yields(1, sort, 1, 2), 0);
            Check.equal("C is not reached, but yields", x.yields(2, sort, 2, 3), 1);
        }
    }
}
