/** Each sentence of promises 28 to 30 that names an edge has a test of its own here. */
public final class EdgesOfGrammarTest {
    private static final int MIN = Check.MIN;
    private static final int MAX = Check.MAX;

    public static void main(String[] args) {
        Check.runAll(EdgesOfGrammarTest.class);
    }

    static void promise28NoSuchCapital() {
        PiecesThatFit x = Check.object("C=a;A=b;F=c", "");
        int[] others = {-1, 1, 3, 4, 6, 7, 32, 33, MIN, MAX};
        for (int what = 0; what <= 7; what++) {
            for (int c : others) {
                Check.equal("capital(" + c + ", " + what + ")", x.capital(c, what), -1);
            }
        }
        int[] there = {0, 2, 5};
        for (int c : there) {
            Check.equal("capital(" + c + ", 0)", x.capital(c, 0), 1);
        }
    }

    static void promise28AnotherWhat() {
        PiecesThatFit x = Check.object("A=a;B=B", "");
        int[] others = {-1, 8, MIN, MAX};
        for (int what : others) {
            Check.equal("capital(0, " + what + ")", x.capital(0, what), -1);
            Check.equal("of one that yields nothing: NONE ahead of -2", x.capital(1, what), -1);
        }
    }

    static void promise28YieldsNothing() {
        PiecesThatFit x = Check.object("A=a|BC;B=B|aB|Bb;C=c", "");
        int[] due = {3, 0, 1, 0, -2, -2, -2, -2};
        for (int what = 0; what <= 7; what++) {
            Check.equal("capital(1, " + what + ")", x.capital(1, what), due[what]);
        }
    }

    static void promise28HowManyAlternatives() {
        PiecesThatFit x = Check.object("A=", "");
        Check.equal("one", x.capital(0, 0), 1);
        Check.grammar(x, "A=|||||||||||");
        Check.equal("twelve", x.capital(0, 0), 12);
        Check.grammar(x, "A=|a|b|c|d|e|f|g|h|;B=|");
        Check.equal("ten", x.capital(0, 0), 10);
        Check.equal("and two", x.capital(1, 0), 2);
    }

    static void promise28StartItself() {
        PiecesThatFit x = Check.object("F=;A=F", "");
        Check.equal("START comes of START", x.capital(5, 2), 1);
        Check.equal("what START comes of does not", x.capital(0, 2), 0);
        Check.grammar(x, "F=;A=B|F;B=A");
        Check.equal("what comes of others does not", x.capital(1, 2), 0);
        Check.equal("nor they", x.capital(0, 2), 0);
        Check.grammar(x, "A=B|;B=C;C=D;D=E;E=F;F=B");
        for (int c = 0; c < 6; c++) {
            Check.equal("the last in a chain, too", x.capital(c, 2), 1);
        }
        Check.grammar(x, "F=E|;E=D;D=C;C=B;B=A;A=B");
        for (int c = 0; c < 6; c++) {
            Check.equal("the last in a chain that is told from its end", x.capital(c, 2), 1);
        }
    }

    static void promise28RowWithoutSigns() {
        PiecesThatFit x = Check.object("A=BB|a;B=|b;C=aB;D=dD|A", "");
        int[] due = {1, 1, 0, 1};
        for (int c = 0; c < 4; c++) {
            Check.equal("capital(" + c + ", 3)", x.capital(c, 3), due[c]);
        }
    }

    static void promise28Shortest() {
        PiecesThatFit x = Check.object("A=BBBB;B=CCCC;C=DDDD;D=EEEE;E=FFFF;F=aaaa", "");
        int[] due = {4096, 1024, 256, 64, 16, 4};
        for (int c = 0; c < 6; c++) {
            Check.equal("capital(" + c + ", 4)", x.capital(c, 4), due[c]);
        }
        Check.grammar(x, "A=BBBB|;B=aaaa|b");
        Check.equal("none", x.capital(0, 4), 0);
        Check.equal("one", x.capital(1, 4), 1);
    }

    static void promise28SetsOfSigns() {
        PiecesThatFit x = new PiecesThatFit();
        for (int what = 5; what <= 7; what++) {
            Check.equal("no signs", x.capital(0, what), 0);
        }
        Check.grammar(x, "A=aA|bA|cA|dA|eA|fA|gA|hA|");
        for (int what = 5; what <= 7; what++) {
            Check.equal("all signs", x.capital(0, what), 255);
        }
        Check.grammar(x, "A=bdh");
        Check.equal("begins", x.capital(0, 5), 2);
        Check.equal("ends", x.capital(0, 6), 128);
        Check.equal("in it", x.capital(0, 7), 138);
    }

    static void promise28ChangesNothing() {
        Untouched.by("no such capital", -1, x -> x.capital(1, 0));
        Untouched.by("another what", -1, x -> x.capital(0, 8));
        Untouched.by("it yields nothing", -2, x -> x.capital(2, 4));
        Untouched.by("a question", 7, x -> x.capital(0, 7));
    }

    static void promise29AnotherN() {
        PiecesThatFit x = Check.object("A=aA|", "");
        x.longest();
        int[] others = {-1, 6, MIN, MAX};
        for (int n : others) {
            Check.tells("sentences(" + n + ")", x, x.sentences(n), -1, "0 2");
        }
        Check.tells("none", x, x.sentences(0), 1, "");
        Check.tells("five", x, x.sentences(5), 1, "0 0 0 0 0");
    }

    static void promise29MoreThan1000Rows() {
        PiecesThatFit x = Check.object("A=aA|bA|cA|dA|", "");
        Check.tells("4 to the 4th are 256", x, x.sentences(4), 256, "0 0 0 0");
        Check.tells("4 to the 5th are 1,024", x, x.sentences(5), -2, "0 0 0 0");
        Check.grammar(x, "A=aA|bA|cA|dA|eA|");
        Check.tells("5 to the 4th are 625", x, x.sentences(4), 625, "0 0 0 0");
        Check.tells("5 to the 5th are 3,125", x, x.sentences(5), -2, "0 0 0 0");
        Check.grammar(x, "A=aA|bA|cA|dA|eA|fA|");
        Check.tells("6 to the 4th are 1,296", x, x.sentences(4), -2, "0 0 0 0");
        Check.tells("6 to the 3rd are 216", x, x.sentences(3), 216, "0 0 0");
        Check.grammar(x, "A=aA|bA|cA|dA|eA|fA|gA|hA|");
        Check.tells("8 to the 3rd are 512", x, x.sentences(3), 512, "0 0 0");
        Check.tells("8 to the 4th are 4,096", x, x.sentences(4), -2, "0 0 0");
        Check.tells("8 to the 5th are 32,768", x, x.sentences(5), -2, "0 0 0");
        Check.grammar(x, "A=aA|bA|hA|");
        Check.tells("3 to the 5th are 243", x, x.sentences(5), 243, "0 0 0 0 0");
    }

    static void promise29NoneAheadOfTooMany() {
        PiecesThatFit x = Check.object("A=aA|bA|cA|dA|", "");
        Check.equal("another n", x.sentences(6), -1);
        Check.equal("too many", x.sentences(5), -2);
    }

    static void promise29SignsThatSentencesHave() {
        PiecesThatFit x = Check.object("A=ab|cB;B=dB|eC;C=B;D=fgh", "");
        Check.equal("a and b", x.count(8), 3);
        Check.tells("2 to the 5th, none of them", x, x.sentences(5), 0, "");
        Check.tells("ab", x, x.sentences(2), 1, "0 1");
    }

    static void promise29NothingWithout() {
        PiecesThatFit x = Check.object("A=ab", "");
        x.longest();
        Check.tells("none of one sign", x, x.sentences(1), 0, "");
        x.longest();
        Check.tells("the empty one is none", x, x.sentences(0), 0, "");
        Check.grammar(x, "A=");
        x.longest();
        Check.tells("the empty one has no signs", x, x.sentences(0), 1, "");
        x.longest();
        Check.tells("no signs, no rows", x, x.sentences(5), 0, "");
    }

    static void promise29FirstByTheAlphabet() {
        PiecesThatFit x = Check.object("A=hB|Bh;B=ggg|hh", "");
        Check.tells("ghh.. hgh..: hhh alone has three", x, x.sentences(3), 1, "7 7 7");
        Check.tells("gggh, hggg", x, x.sentences(4), 2, "6 6 6 7");
        Check.grammar(x, "A=bB|aC;B=aaaa;C=hhhh");
        Check.tells("ahhhh is ahead of baaaa", x, x.sentences(5), 2, "0 7 7 7 7");
    }

    static void promise29EmptyOnesBesideSigns() {
        PiecesThatFit x = Check.object("A=BBBa;B=", "");
        Check.tells("ahead of a", x, x.sentences(1), 1, "0");
        Check.grammar(x, "A=aBBB;B=");
        Check.tells("behind a", x, x.sentences(1), 1, "0");
        Check.grammar(x, "A=BBBB;B=|C;C=");
        Check.tells("alone", x, x.sentences(0), 1, "");
    }

    static void promise29OneSignAlone() {
        PiecesThatFit x = Check.object("A=gA|", "");
        for (int n = 0; n <= 5; n++) {
            Check.tells("g's", x, x.sentences(n), 1, "6 6 6 6 6".substring(0, Math.max(0, 2 * n - 1)));
        }
    }

    static void promise29DifferentOnes() {
        PiecesThatFit x = Check.object("A=AA|A|a|a|", "");
        for (int n = 0; n <= 5; n++) {
            Check.equal("one, however it comes", x.sentences(n), 1);
        }
    }

    static void promise29ChangesNothing() {
        Untouched.by("another n", -1, x -> x.sentences(6));
        Untouched.by("another n", -1, x -> x.sentences(-1));
        Untouched.butRow("acb", 1, x -> x.sentences(3));
        Untouched.by("too many", () -> {
            PiecesThatFit x = Untouched.rich();
            Check.grammar(x, "A=aA|bA|cA|dA|");
            Check.type(x, "hgf");
            return x;
        }, -2, x -> x.sentences(5));
    }

    static void promise30Others() {
        PiecesThatFit x = new PiecesThatFit();
        int[] numbers = {-1, 2, MIN, MAX};
        int[] lengths = {-1, 6, MIN, MAX};
        for (int time = 0; time < 2; time++) {
            for (int k = 0; k < 4; k++) {
                Check.equal("another i", x.apart(numbers[k], 1), -1);
                Check.equal("another n", x.apart(0, lengths[k]), -1);
                Check.equal("another n", x.apart(1, lengths[k]), -1);
                Check.equal("both", x.apart(numbers[k], lengths[k]), -1);
            }
            x.keep(0);
        }
        Check.equal("0 and 0", x.apart(0, 0), -2);
        Check.equal("0 and 5", x.apart(0, 5), -2);
    }

    static void promise30NothingIsKept() {
        PiecesThatFit x = Check.object("A=aA|bA|cA|dA|", "");
        x.longest();
        Check.tells("under 0", x, x.apart(0, 0), -3, "0 2");
        Check.tells("under 1, though there are too many rows", x, x.apart(1, 5), -3, "0 2");
        x.keep(1);
        Check.tells("under 0 still", x, x.apart(0, 0), -3, "0 2");
        Check.tells("under 1 there is something", x, x.apart(1, 0), -2, "0 2");
    }

    static void promise30MoreThan1000Rows() {
        PiecesThatFit x = Check.object("A=aA|bA|cA|", "");
        x.keep(0);
        x.longest();
        Check.tells("3 to the 5th", x, x.apart(0, 5), -2, "0 2");
        Check.grammar(x, "A=aA|bA|dA|");
        Check.tells("4 to the 5th, of both", x, x.apart(0, 5), -4, "0 2");
        Check.tells("4 to the 4th", x, x.apart(0, 4), 1, "2 0");
        Check.grammar(x, "A=dA|eA|");
        Check.tells("5 to the 5th", x, x.apart(0, 5), -4, "2 0");
        Check.tells("5 to the 4th", x, x.apart(0, 4), 1, "0 0");
        Check.grammar(x, "A=dA|eA|fA|");
        Check.tells("6 to the 4th", x, x.apart(0, 4), -4, "0 0");
        Check.tells("6 to the 3rd", x, x.apart(0, 3), 1, "0 0");
        Check.grammar(x, "A=dA|eA|fA|gA|hA|");
        Check.tells("8 to the 3rd", x, x.apart(0, 3), 1, "0 0");
        Check.tells("8 to the 4th", x, x.apart(0, 4), -4, "0 0");
    }

    static void promise30NoneSoShort() {
        PiecesThatFit x = Check.object("A=aaaB;B=ab", "");
        x.keep(0);
        Check.grammar(x, "A=aaaB;B=aa");
        x.longest();
        Check.tells("of at most four", x, x.apart(0, 4), -2, "0 1");
        Check.tells("of five", x, x.apart(0, 5), 5, "0 0 0 0 0 1");
        x.keep(1);
        x.again(0);
        Check.tells("the other way round", x, x.apart(1, 5), 5, "0 0 0 0 0 0");
        Check.tells("itself", x, x.apart(0, 5), -2, "0 0 0 0 0 0");
    }

    static void promise30EmptyRow() {
        PiecesThatFit x = new PiecesThatFit();
        x.keep(0);
        Check.tells("both have it", x, x.apart(0, 0), -2, "");
        Check.grammar(x, "A=a");
        Check.tells("the kept one has it", x, x.apart(0, 0), 0, "0");
        x.keep(1);
        Check.grammar(x, "A=a|");
        Check.tells("the GRAMMAR has it", x, x.apart(1, 5), 0, "1");
    }

    static void promise30AllPartsOfGrammars() {
        PiecesThatFit x = Check.object("A=a;B=b", "");
        x.keep(0);
        Check.grammar(x, "B=a;A=b");
        Check.equal("other names, the same sentences", x.apart(0, 5), -2);
        Check.grammar(x, "B=b;A=a");
        Check.tells("the same rules, another START", x, x.apart(0, 5), 1, "0 0");
        Check.grammar(x, "A=b;B=a");
        Check.tells("the same shape, other signs", x, x.apart(0, 5), 1, "0 0");
        Check.grammar(x, "A=Ba;B=");
        Check.equal("an empty one ahead", x.apart(0, 5), -2);
    }

    static void promise30ShortestFirst() {
        PiecesThatFit x = Check.object("A=h|aa", "");
        x.keep(0);
        Check.grammar(x, "A=aa|b");
        Check.tells("b ahead of h", x, x.apart(0, 3), 1, "1 1");
        Check.grammar(x, "A=aaa|g");
        Check.tells("g ahead of h, these ahead of aa", x, x.apart(0, 3), 1, "6 1");
    }

    static void promise30ChangesNothing() {
        Untouched.by("another i", -1, x -> x.apart(2, 1));
        Untouched.by("another n", -1, x -> x.apart(1, 6));
        Untouched.by("nothing is kept", -3, x -> x.apart(0, 1));
        Untouched.butRow("the empty one", 0, x -> x.apart(1, 4));
        Untouched.by("4 to the 5th", -4, x -> x.apart(1, 5));
        Untouched.by("none so short", () -> {
            PiecesThatFit x = Untouched.rich();
            x.keep(0);
            return x;
        }, -2, x -> x.apart(0, 5));
    }
}
