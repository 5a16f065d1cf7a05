/** Each sentence of promises 10 to 16 that names an edge has a test of its own here. */
public final class EdgesOfPiecesTest {
    private static final int MIN = Check.MIN;
    private static final int MAX = Check.MAX;
    private static final String FULL_LINE = "aaaaaaaaaaaaaa";
    /** Of a line of two signs, what is no piece. */
    private static final int[][] NO_PIECES = {{-1, -1}, {-1, 0}, {-1, 4}, {1, 0}, {2, 1}, {4, 3}, {4, 0}, {0, 5},
        {4, 5}, {5, 5}, {MIN, MIN}, {MIN, 0}, {MIN, 4}, {MAX, MAX}, {0, MAX}, {4, MAX}, {MIN, MAX}, {MAX, MIN},
        {0, MIN}, {MAX, 0}};

    public static void main(String[] args) {
        Check.runAll(EdgesOfPiecesTest.class);
    }

    static void promise10NoSuchPiece() {
        PiecesThatFit x = Check.object("A=aAb|", "ab");
        for (int[] no : NO_PIECES) {
            Check.equal("fits(" + no[0] + ", " + no[1] + ")", x.fits(no[0], no[1]), -1);
        }
        Check.equal("the first", x.fits(0, 0), 1);
        Check.equal("the last", x.fits(4, 4), 1);
        Check.equal("the longest", x.fits(0, 4), 1);
    }

    static void promise10EmptyPieceFits() {
        PiecesThatFit x = Check.object("A=a", "hhh");
        for (int i = 0; i <= 5; i++) {
            Check.equal("(" + i + ", " + i + ")", x.fits(i, i), 1);
        }
        Check.equal("^", x.fits(0, 1), 1);
        Check.equal("h", x.fits(1, 2), 0);
        Check.equal("$", x.fits(4, 5), 1);
    }

    static void promise10WithoutGap() {
        PiecesThatFit x = Check.object("A=abc", "ac");
        Check.equal("a", x.fits(1, 2), 1);
        Check.equal("c", x.fits(2, 3), 1);
        Check.equal("a, c", x.fits(1, 3), 0);
        Check.equal("^, c", Check.object("A=abc", "c").fits(0, 2), 0);
    }

    static void promise10EmptyLine() {
        PiecesThatFit x = new PiecesThatFit();
        Check.equal("^$", x.fits(0, 2), 1);
        Check.equal("behind $", x.fits(2, 2), 1);
        Check.equal("no piece", x.fits(0, 3), -1);
        Check.equal("no piece", x.fits(3, 3), -1);
        PiecesThatFit y = Check.object("A=a", "");
        Check.equal("^$ of another grammar", y.fits(0, 2), 0);
        Check.equal("^", y.fits(0, 1), 1);
        Check.equal("$", y.fits(1, 2), 1);
    }

    static void promise10FullLine() {
        PiecesThatFit x = Check.object("A=aA|", FULL_LINE);
        Check.equal("all", x.fits(0, 16), 1);
        Check.equal("behind $", x.fits(16, 16), 1);
        Check.equal("no piece", x.fits(0, 17), -1);
        Check.equal("no piece", x.fits(17, 17), -1);
        x.becomes(14, 1);
        Check.equal("all but the last sign", x.fits(0, 14), 1);
        Check.equal("the last sign", x.fits(14, 15), 0);
    }

    static void promise10ChangesNothing() {
        Untouched.by("no piece", -1, x -> x.fits(0, 10));
        Untouched.by("a piece", 0, x -> x.fits(0, 9));
    }

    static void promise11OutOfPlaces() {
        PiecesThatFit x = Check.object("A=aAb|", "ab");
        Check.equal("the first", x.onwards(0), 4);
        Check.equal("the last", x.onwards(4), 4);
        Check.equal("below 0", x.onwards(-1), -1);
        Check.equal("behind n + 2", x.onwards(5), -1);
        Check.equal("the least", x.onwards(MIN), -1);
        Check.equal("the greatest", x.onwards(MAX), -1);
    }

    static void promise11EmptyPieceAtLeast() {
        PiecesThatFit x = Check.object("A=a", "hh");
        int[] due = {1, 1, 2, 4, 4};
        for (int i = 0; i <= 4; i++) {
            Check.equal("onwards(" + i + ")", x.onwards(i), due[i]);
        }
    }

    static void promise11EmptyLine() {
        PiecesThatFit x = new PiecesThatFit();
        Check.equal("all", x.onwards(0), 2);
        Check.equal("the last", x.onwards(2), 2);
        Check.equal("none", x.onwards(3), -1);
    }

    static void promise11FullLine() {
        PiecesThatFit x = Check.object("A=aA|", FULL_LINE);
        Check.equal("all", x.onwards(0), 16);
        Check.equal("the last", x.onwards(16), 16);
        Check.equal("none", x.onwards(17), -1);
    }

    static void promise11ChangesNothing() {
        Untouched.by("none such", -1, x -> x.onwards(10));
        Untouched.by("the last", 9, x -> x.onwards(9));
    }

    static void promise12OutOfPlaces() {
        PiecesThatFit x = Check.object("A=aAb|", "ab");
        Check.equal("the first", x.back(0), 0);
        Check.equal("the last", x.back(4), 0);
        Check.equal("below 0", x.back(-1), -1);
        Check.equal("behind n + 2", x.back(5), -1);
        Check.equal("the least", x.back(MIN), -1);
        Check.equal("the greatest", x.back(MAX), -1);
    }

    static void promise12EmptyPieceAtLeast() {
        PiecesThatFit x = Check.object("A=a", "hh");
        int[] due = {0, 0, 2, 3, 3};
        for (int j = 0; j <= 4; j++) {
            Check.equal("back(" + j + ")", x.back(j), due[j]);
        }
    }

    static void promise12EmptyLine() {
        PiecesThatFit x = new PiecesThatFit();
        Check.equal("all", x.back(2), 0);
        Check.equal("the first", x.back(0), 0);
        Check.equal("none", x.back(3), -1);
    }

    static void promise12FullLine() {
        PiecesThatFit x = Check.object("A=aA|", FULL_LINE);
        Check.equal("all", x.back(16), 0);
        Check.equal("none", x.back(17), -1);
    }

    static void promise12ChangesNothing() {
        Untouched.by("none such", -1, x -> x.back(-1));
        Untouched.by("the first", 0, x -> x.back(0));
    }

    static void promise13EmptyLine() {
        Check.equal("A=", new PiecesThatFit().sentence(), 1);
        Check.equal("A=a", Check.object("A=a", "").sentence(), 0);
        Check.equal("A=a|", Check.object("A=a|", "").sentence(), 1);
    }

    static void promise13FullLine() {
        PiecesThatFit x = Check.object("A=BBBa|BBBb;B=aaaa|aaab", FULL_LINE);
        Check.equal("sentences have 13", x.sentence(), 0);
        x.goes(1);
        Check.equal("thirteen", x.sentence(), 1);
        Check.equal("fourteen", Check.object("A=aA|", FULL_LINE).sentence(), 1);
        Check.equal("fifteen are asked", Check.object("A=aBB;B=Caaa;C=aaaa", FULL_LINE).sentence(), 0);
    }

    static void promise13OneSignMoreOrLess() {
        Check.equal("one less", Check.object("A=aaaa", "aaa").sentence(), 0);
        Check.equal("as many", Check.object("A=aaaa", "aaaa").sentence(), 1);
        Check.equal("one more", Check.object("A=aaaa", "aaaaa").sentence(), 0);
    }

    static void promise13ChangesNothing() {
        Untouched.by("no sentence", 0, PiecesThatFit::sentence);
    }

    static void promise14NoSuchPiece() {
        PiecesThatFit x = Check.object("A=aAb|", "ab");
        x.longest();
        for (int[] no : NO_PIECES) {
            Check.tells("next(" + no[0] + ", " + no[1] + ")", x, x.next(no[0], no[1]), -1, "0 4");
        }
    }

    static void promise14DoesNotFit() {
        PiecesThatFit x = Check.object("A=aAb|", "ba");
        x.longest();
        Check.tells("^b", x, x.next(0, 2), -2, "0 1");
        Check.tells("a$", x, x.next(2, 4), -2, "0 1");
        Check.tells("all", x, x.next(0, 4), -2, "0 1");
        Check.tells("b", x, x.next(1, 2), 256 + 2, "2");
    }

    static void promise14BehindEnd() {
        PiecesThatFit x = Check.object("A=aAb|", "ab");
        Check.tells("behind $", x, x.next(3, 4), 0, "0");
        Check.tells("behind all", x, x.next(0, 4), 0, "0");
    }

    static void promise14EmptyPiece() {
        PiecesThatFit x = Check.object("A=aAb|", "ab");
        for (int i = 0; i <= 4; i++) {
            Check.tells("behind nothing", x, x.next(i, i), 256 + 3, "3");
        }
    }

    static void promise14BeginNeverStands() {
        PiecesThatFit x = Check.object("A=ab", "ab");
        Check.tells("a: b alone", x, x.next(1, 2), 2, "1");
        Check.tells("^: a alone", x, x.next(0, 1), 1, "1");
        Check.tells("b: $ alone", x, x.next(2, 3), 256, "1");
    }

    static void promise14AllSigns() {
        PiecesThatFit x = Check.object("A=aA|bA|cA|dA|eA|fA|gA|hA|", FULL_LINE);
        Check.tells("behind ^", x, x.next(0, 1), 511, "9");
        Check.tells("behind fourteen", x, x.next(0, 15), 511, "9");
        Check.tells("behind $", x, x.next(0, 16), 0, "0");
        Check.tells("no piece", x, x.next(0, 17), -1, "0");
    }

    static void promise14FullLine() {
        PiecesThatFit x = Check.object("A=aA|", FULL_LINE);
        for (int i = 0; i <= 16; i++) {
            Check.tells("behind nothing", x, x.next(i, i), 257, "2");
            Check.tells("behind the rest", x, x.next(i, 16), i < 16 ? 0 : 257, i < 16 ? "0" : "2");
            Check.tells("behind what is ahead", x, x.next(0, i), i < 16 ? 257 : 0, i < 16 ? "2" : "0");
        }
    }

    static void promise14QuestionsBehindIt() {
        PiecesThatFit x = Check.object("A=aAb|", "aabb");
        for (int i = 0; i <= 6; i++) {
            x.next(i, i);
            Check.equal("onwards", x.onwards(6), 6);
            x.next(i, i);
            Check.equal("all fits", x.longest(), 6);
            x.next(i, i);
            Check.tells("nothing is wrong", x, x.report(), 0, "");
            x.next(i, i);
            Check.tells("nothing is wrong", x, x.backwards(), 0, "");
            x.next(i, i);
            Check.tells("nothing is wrong", x, x.least(), 0, "");
            x.next(i, i);
            Check.tells("nothing is needed", x, x.needed(), 0, "0");
        }
    }

    static void promise14EmptyLine() {
        PiecesThatFit x = Check.object("A=h", "");
        Check.tells("behind ^", x, x.next(0, 1), 128, "1");
        Check.tells("behind $", x, x.next(1, 2), 0, "0");
        Check.tells("^$", x, x.next(0, 2), -2, "0");
        Check.tells("no piece", x, x.next(0, 3), -1, "0");
    }

    static void promise14ChangesNothing() {
        Untouched.by("no piece", -1, x -> x.next(1, 0));
        Untouched.by("it does not fit", -2, x -> x.next(0, 9));
        Untouched.butRow("behind ^", 256 + 5, x -> x.next(0, 1));
    }

    static void promise15NoSuchPiece() {
        PiecesThatFit x = Check.object("A=aAb|", "ab");
        x.longest();
        for (int[] no : NO_PIECES) {
            Check.tells("ahead(" + no[0] + ", " + no[1] + ")", x, x.ahead(no[0], no[1]), -1, "0 4");
        }
    }

    static void promise15DoesNotFit() {
        PiecesThatFit x = Check.object("A=aAb|", "ba");
        x.longest();
        Check.tells("^b", x, x.ahead(0, 2), -2, "0 1");
        Check.tells("a$", x, x.ahead(2, 4), -2, "0 1");
        Check.tells("all", x, x.ahead(0, 4), -2, "0 1");
        Check.tells("a", x, x.ahead(2, 3), 256 + 1, "2");
    }

    static void promise15AheadOfBegin() {
        PiecesThatFit x = Check.object("A=aAb|", "ab");
        Check.tells("ahead of ^", x, x.ahead(0, 1), 0, "0");
        Check.tells("ahead of all", x, x.ahead(0, 4), 0, "0");
    }

    static void promise15EmptyPiece() {
        PiecesThatFit x = Check.object("A=aAb|", "ab");
        for (int i = 0; i <= 4; i++) {
            Check.tells("ahead of nothing", x, x.ahead(i, i), 256 + 3, "3");
        }
    }

    static void promise15EndNeverStands() {
        PiecesThatFit x = Check.object("A=ab", "ab");
        Check.tells("b: a alone", x, x.ahead(2, 3), 1, "1");
        Check.tells("$: b alone", x, x.ahead(3, 4), 2, "1");
        Check.tells("a: ^ alone", x, x.ahead(1, 2), 256, "1");
    }

    static void promise15AllSigns() {
        PiecesThatFit x = Check.object("A=aA|bA|cA|dA|eA|fA|gA|hA|", FULL_LINE);
        Check.tells("ahead of $", x, x.ahead(15, 16), 511, "9");
        Check.tells("ahead of fourteen", x, x.ahead(1, 16), 511, "9");
        Check.tells("ahead of ^", x, x.ahead(0, 16), 0, "0");
        Check.tells("no piece", x, x.ahead(0, 17), -1, "0");
    }

    static void promise15FullLine() {
        PiecesThatFit x = Check.object("A=aA|", FULL_LINE);
        for (int i = 0; i <= 16; i++) {
            Check.tells("ahead of nothing", x, x.ahead(i, i), 257, "2");
            Check.tells("ahead of what is ahead", x, x.ahead(0, i), i > 0 ? 0 : 257, i > 0 ? "0" : "2");
            Check.tells("ahead of the rest", x, x.ahead(i, 16), i > 0 ? 257 : 0, i > 0 ? "2" : "0");
        }
    }

    static void promise15EmptyLine() {
        PiecesThatFit x = Check.object("A=h", "");
        Check.tells("ahead of $", x, x.ahead(1, 2), 128, "1");
        Check.tells("ahead of ^", x, x.ahead(0, 1), 0, "0");
        Check.tells("^$", x, x.ahead(0, 2), -2, "0");
        Check.tells("no piece", x, x.ahead(0, 3), -1, "0");
    }

    static void promise15ChangesNothing() {
        Untouched.by("no piece", -1, x -> x.ahead(1, 0));
        Untouched.by("it does not fit", -2, x -> x.ahead(0, 9));
        Untouched.butRow("ahead of $", 256 + 6, x -> x.ahead(8, 9));
    }

    static void promise16AnotherSort() {
        PiecesThatFit x = Check.object("A=aAb|", "ab");
        for (int sort = 0; sort <= 3; sort++) {
            Check.equal("sort " + sort, x.yields(0, sort, 1, 3), 1);
        }
        int[] others = {-1, 4, MIN, MAX};
        for (int sort : others) {
            Check.equal("sort " + sort, x.yields(0, sort, 1, 3), -1);
        }
    }

    static void promise16NoSuchCapital() {
        PiecesThatFit x = Check.object("A=a;F=a;C=a", "a");
        int[] there = {0, 2, 5};
        for (int c : there) {
            Check.equal("capital " + c, x.yields(c, 0, 1, 2), 1);
        }
        int[] others = {-1, 1, 3, 4, 6, 7, 32, MIN, MAX};
        for (int c : others) {
            Check.equal("capital " + c, x.yields(c, 0, 1, 2), -1);
        }
    }

    static void promise16NoSuchPiece() {
        PiecesThatFit x = Check.object("A=aAb|", "ab");
        for (int[] no : NO_PIECES) {
            for (int sort = 0; sort <= 3; sort++) {
                Check.equal("yields(0, " + sort + ", " + no[0] + ", " + no[1] + ")",
                    x.yields(0, sort, no[0], no[1]), -1);
            }
        }
    }

    static void promise16PieceWithBeginOrEnd() {
        PiecesThatFit x = Check.object("A=aAb|", "ab");
        int[][] with = {{0, 1}, {0, 2}, {0, 3}, {0, 4}, {1, 4}, {2, 4}, {3, 4}};
        for (int sort = 0; sort <= 3; sort++) {
            for (int[] p : with) {
                Check.equal("with ^ or $", x.yields(0, sort, p[0], p[1]), -1);
            }
            Check.equal("all between", x.yields(0, sort, 1, 3), 1);
        }
    }

    static void promise16EmptyPiece() {
        PiecesThatFit x = Check.object("A=aAb|;B=b;C=cC", "ab");
        for (int i = 0; i <= 4; i++) {
            for (int sort = 0; sort <= 3; sort++) {
                Check.equal("A yields nothing, too", x.yields(0, sort, i, i), 1);
                Check.equal("B, wholly or less", x.yields(1, sort, i, i), sort == 0 ? 0 : 1);
                Check.equal("C yields nothing at all", x.yields(2, sort, i, i), 0);
            }
        }
    }

    static void promise16WhollyOrLess() {
        PiecesThatFit x = Check.object("A=aB;B=bc|", "abc");
        int[][] pieces = {{1, 4}, {1, 3}, {2, 4}, {2, 3}, {1, 2}, {3, 4}};
        int[][] due = {{1, 1, 1, 1}, {0, 1, 0, 1}, {0, 0, 1, 1}, {0, 0, 0, 1}, {1, 1, 1, 1}, {0, 0, 1, 1}};
        for (int k = 0; k < pieces.length; k++) {
            for (int sort = 0; sort <= 3; sort++) {
                Check.equal("A, sort " + sort + ", piece " + k, x.yields(0, sort, pieces[k][0], pieces[k][1]),
                    due[k][sort]);
            }
        }
    }

    static void promise16YieldsNothing() {
        PiecesThatFit x = Check.object("A=a;B=aB|C;C=BC", "a");
        for (int sort = 0; sort <= 3; sort++) {
            Check.equal("A", x.yields(0, sort, 1, 2), 1);
            Check.equal("B", x.yields(1, sort, 1, 2), 0);
            Check.equal("C", x.yields(2, sort, 1, 2), 0);
        }
    }

    static void promise16EmptyLine() {
        PiecesThatFit x = new PiecesThatFit();
        for (int sort = 0; sort <= 3; sort++) {
            for (int i = 0; i <= 2; i++) {
                Check.equal("nothing", x.yields(0, sort, i, i), 1);
            }
            Check.equal("^", x.yields(0, sort, 0, 1), -1);
            Check.equal("$", x.yields(0, sort, 1, 2), -1);
            Check.equal("^$", x.yields(0, sort, 0, 2), -1);
            Check.equal("no piece", x.yields(0, sort, 3, 3), -1);
        }
    }

    static void promise16FullLine() {
        PiecesThatFit x = Check.object("A=aA|", FULL_LINE);
        for (int sort = 0; sort <= 3; sort++) {
            Check.equal("fourteen", x.yields(0, sort, 1, 15), 1);
            Check.equal("behind $", x.yields(0, sort, 16, 16), 1);
            Check.equal("with ^", x.yields(0, sort, 0, 15), -1);
            Check.equal("with $", x.yields(0, sort, 1, 16), -1);
            Check.equal("no piece", x.yields(0, sort, 17, 17), -1);
        }
    }

    static void promise16ChangesNothing() {
        Untouched.by("another sort", -1, x -> x.yields(0, 4, 1, 2));
        Untouched.by("no such capital", -1, x -> x.yields(1, 0, 1, 2));
        Untouched.by("no such piece", -1, x -> x.yields(0, 0, 2, 1));
        Untouched.by("one with ^", -1, x -> x.yields(0, 0, 0, 1));
        Untouched.by("a question", 1, x -> x.yields(0, 1, 1, 2));
    }
}
