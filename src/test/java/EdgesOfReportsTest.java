/** Each sentence of promises 17 to 27 that names an edge has a test of its own here. */
public final class EdgesOfReportsTest {
    private static final int MIN = Check.MIN;
    private static final int MAX = Check.MAX;
    private static final String FULL_LINE = "aaaaaaaaaaaaaa";
    /** Its one sentence has fifteen signs a: a full line of them is only wrong as a whole. */
    private static final String FIFTEEN = "A=aBB;B=Caaa;C=aaaa";
    /** Its one sentence has 4096 signs a: the longest shortest one that a grammar can have. */
    private static final String LONGEST = "A=BBBB;B=CCCC;C=DDDD;D=EEEE;E=FFFF;F=aaaa";

    public static void main(String[] args) {
        Check.runAll(EdgesOfReportsTest.class);
    }

    static void promise17NoneTold() {
        PiecesThatFit x = Check.object("A=aAb|", "aabb");
        x.longest();
        Check.tells("a sentence: the ROW has nothing", x, x.report(), 0, "");
    }

    static void promise17EmptyLine() {
        PiecesThatFit x = new PiecesThatFit();
        Check.tells("^$ fits", x, x.report(), 0, "");
        Check.tells("^$ does not", x = Check.object("A=a", ""), x.report(), 1, "0 2");
    }

    static void promise17FullLine() {
        PiecesThatFit x = Check.object("A=b", FULL_LINE);
        Check.tells("each sign", x, x.report(), 14, each(1, 1, 14));
        Check.equal("28 numbers", x.count(6), 28);
        Check.tells("all as one", x = Check.object(FIFTEEN, FULL_LINE), x.report(), 1, "0 16");
    }

    static void promise17TillThereIsNoSuchJ() {
        PiecesThatFit x = Check.object("A=ab", "a");
        Check.tells("a$, the last", x, x.report(), 1, "1 3");
        Check.line(x, "b");
        Check.tells("^b, and b$ has no begin left", x, x.report(), 1, "0 2");
        Check.line(x, "ba");
        Check.tells("^b, then a$", x, x.report(), 2, "0 2 2 4");
    }

    static void promise17ChangesNothing() {
        Untouched.butRow("of the rich one", 3, PiecesThatFit::report);
    }

    static void promise18NoneTold() {
        PiecesThatFit x = Check.object("A=aAb|", "aabb");
        x.longest();
        Check.tells("a sentence: the ROW has nothing", x, x.backwards(), 0, "");
    }

    static void promise18EmptyLine() {
        PiecesThatFit x = new PiecesThatFit();
        Check.tells("^$ fits", x, x.backwards(), 0, "");
        Check.tells("^$ does not", x = Check.object("A=a", ""), x.backwards(), 1, "0 2");
    }

    static void promise18FullLine() {
        PiecesThatFit x = Check.object("A=b", FULL_LINE);
        Check.tells("each sign, the leftmost first", x, x.backwards(), 14, each(1, 1, 14));
        Check.tells("all as one", x = Check.object(FIFTEEN, FULL_LINE), x.backwards(), 1, "0 16");
    }

    static void promise18TillThereIsNoSuchI() {
        PiecesThatFit x = Check.object("A=ab", "b");
        Check.tells("^b, the last", x, x.backwards(), 1, "0 2");
        Check.line(x, "a");
        Check.tells("a$, and ^a has no end left", x, x.backwards(), 1, "1 3");
        Check.line(x, "ba");
        Check.tells("^b, then a$", x, x.backwards(), 2, "0 2 2 4");
    }

    static void promise18ChangesNothing() {
        Untouched.butRow("of the rich one", 3, PiecesThatFit::backwards);
    }

    static void promise19NoBrackets() {
        PiecesThatFit x = Check.object("A=cAd|e", "caaad");
        Check.tells("as REPORT", x, x.led(), 3, "2 3 3 4 4 5");
        Check.brackets(x, "cd");
        Check.tells("led", x, x.led(), 1, "2 3");
    }

    static void promise19NoneTold() {
        PiecesThatFit x = Check.object("A=cAd|e", "ccedd", "cd");
        x.longest();
        Check.tells("a sentence: the ROW has nothing", x, x.led(), 0, "");
    }

    static void promise19OpeningLessThanJ() {
        PiecesThatFit x = Check.object("A=cAd|e", "ecaad", "cd");
        Check.tells("at j - 1 it leads", x, x.led(), 1, "1 3");
        Check.line(x, "acaad");
        Check.tells("at j it does not", x, x.led(), 2, "1 2 3 4");
        Check.line(x, "hhceaad");
        Check.tells("behind j it does not", x, x.led(), 3, "1 2 2 3 5 6");
    }

    static void promise19ClosingAtJOrBehind() {
        PiecesThatFit x = Check.object("A=cAd|e", "cade", "cd");
        Check.tells("at j it leads", x, x.led(), 1, "2 3");
        Check.tells("not in REPORT", x, x.report(), 2, "2 3 3 5");
        Check.line(x, "cedhh");
        Check.tells("ahead of j it does not", x, x.led(), 2, "4 5 5 6");
    }

    static void promise19GreatestOpeningPlace() {
        PiecesThatFit x = Check.object("A=cAd|e", "ccaadad", "cd");
        Check.tells("the inner one, then the outer one", x, x.led(), 2, "3 4 6 7");
        Check.line(x, "ccedaad");
        Check.tells("an inner one that is closed does not lead", x, x.led(), 1, "5 6");
    }

    static void promise19FullLine() {
        PiecesThatFit x = Check.object("A=cAd|e", "caaaaaaaaaaaad", "cd");
        Check.tells("behind the closing one at 14 is $", x, x.led(), 1, "2 3");
        Check.brackets(x, "");
        Check.tells("as REPORT", x, x.led(), 12, each(2, 1, 12));
        Check.line(x, FULL_LINE);
        Check.brackets(x, "ba");
        Check.tells("no mates", x, x.led(), 14, each(1, 1, 14));
    }

    static void promise19EmptyLine() {
        PiecesThatFit x = Check.object("A=a", "", "cd");
        Check.tells("^$", x, x.led(), 1, "0 2");
    }

    static void promise19ChangesNothing() {
        Untouched.butRow("of the rich one", 2, PiecesThatFit::led);
    }

    static void promise20None() {
        PiecesThatFit x = Check.object("A=aAb|", "aabb");
        x.longest();
        Check.tells("a sentence: the ROW has nothing", x, x.least(), 0, "");
    }

    static void promise20EmptyLine() {
        PiecesThatFit x = new PiecesThatFit();
        Check.tells("^$ fits", x, x.least(), 0, "");
        Check.tells("^$ does not", x = Check.object("A=a", ""), x.least(), 1, "0 2");
    }

    static void promise20FullRow() {
        PiecesThatFit x = Check.object("A=bab", FULL_LINE);
        Check.tells("each pair of neighbours", x, x.least(), 15, each(0, 2, 15));
        Check.equal("30 numbers: no ROW has more", x.count(6), 30);
        Check.equal("the last", x.row(29), 16);
        Check.throwsNoSuch("behind it", () -> x.row(30));
    }

    static void promise20FullLine() {
        PiecesThatFit x = Check.object(FIFTEEN, FULL_LINE);
        Check.tells("all as one", x, x.least(), 1, "0 16");
        Check.grammar(x, "A=b");
        Check.tells("each sign", x, x.least(), 14, each(1, 1, 14));
    }

    static void promise20AllWithinFit() {
        PiecesThatFit x = Check.object("A=ab", "aba");
        Check.tells("ba, a$; aba has ba within", x, x.least(), 2, "2 4 3 5");
    }

    static void promise20ChangesNothing() {
        Untouched.butRow("of the rich one: e, d, h", 3, PiecesThatFit::least);
    }

    static void promise21OutOfPlaces() {
        PiecesThatFit x = Check.object("A=", "ab", "ab");
        Check.tells("the first", x, x.mate(1), 2, "0");
        Check.tells("the last", x, x.mate(2), 1, "1");
        int[] others = {0, 3, -1, MIN, MAX};
        for (int p : others) {
            Check.tells("mate(" + p + ")", x, x.mate(p), -1, "1");
        }
    }

    static void promise21EmptyLine() {
        PiecesThatFit x = Check.object("A=", "", "ab");
        Check.equal("^", x.mate(0), -1);
        Check.equal("$", x.mate(1), -1);
    }

    static void promise21NoBrackets() {
        PiecesThatFit x = Check.object("A=", "ab");
        x.longest();
        Check.tells("a", x, x.mate(1), -2, "0 1");
        Check.tells("b", x, x.mate(2), -2, "0 1");
    }

    static void promise21ThoseThatWait() {
        PiecesThatFit x = Check.object("A=", "aab", "ab");
        x.mate(3);
        Check.tells("the first a waits", x, x.mate(1), -2, "1");
        Check.tells("the second does not", x, x.mate(2), 3, "0");
    }

    static void promise21ThoseBehindWaitNoMore() {
        PiecesThatFit x = Check.object("A=", "accbd", "abcd");
        x.mate(4);
        Check.tells("a c", x, x.mate(2), -2, "1");
        Check.tells("a c", x, x.mate(3), -2, "1");
        Check.tells("the d", x, x.mate(5), -2, "1");
        Check.tells("the a", x, x.mate(1), 4, "0");
    }

    static void promise21NorDoesIt() {
        PiecesThatFit x = Check.object("A=", "abb", "ab");
        Check.tells("the first b", x, x.mate(2), 1, "1");
        Check.tells("the second", x, x.mate(3), -2, "1");
    }

    static void promise21ClosingWithout() {
        PiecesThatFit x = Check.object("A=", "bcbad", "abcd");
        x.mate(2);
        Check.equal("none waits", x.mate(1), -2);
        Check.equal("one of another pair waits on", x.mate(3), -2);
        Check.equal("and has its mate", x.mate(2), 5);
        Check.equal("what came behind it waits no more", x.mate(4), -2);
    }

    static void promise21LatestOfItsPair() {
        PiecesThatFit x = Check.object("A=", "aacb", "abcd");
        Check.equal("not the c, not the first a", x.mate(4), 2);
    }

    static void promise21FullLine() {
        PiecesThatFit x = Check.object("A=", "aaaaaaabbbbbbb", "ab");
        for (int p = 1; p <= 7; p++) {
            Check.tells("an opening one", x, x.mate(p), 15 - p, "0");
            Check.tells("its closing one", x, x.mate(15 - p), p, "1");
        }
        Check.line(x, FULL_LINE);
        for (int p = 1; p <= 14; p++) {
            Check.equal("all wait", x.mate(p), -2);
        }
        Check.equal("^", x.mate(0), -1);
        Check.equal("$", x.mate(15), -1);
    }

    static void promise21ThreePairs() {
        PiecesThatFit x = Check.object("A=", "acefdb", "abcdef");
        int[] due = {6, 5, 4, 3, 2, 1};
        for (int p = 1; p <= 6; p++) {
            Check.tells("mate(" + p + ")", x, x.mate(p), due[p - 1], p <= 3 ? "0" : "1");
        }
    }

    static void promise21ChangesNothing() {
        Untouched.by("no place", -1, x -> x.mate(0));
        Untouched.by("no place", -1, x -> x.mate(8));
        Untouched.by("it has none", -2, x -> x.mate(3));
        Untouched.butRow("it has one", 5, x -> x.mate(1));
    }

    static void promise22NoneNeeded() {
        PiecesThatFit x = Check.object("A=aAb|", "aabb");
        Check.tells("a sentence", x, x.needed(), 0, "0");
        Check.tells("an empty one", x = new PiecesThatFit(), x.needed(), 0, "0");
    }

    static void promise22OneOfEach() {
        PiecesThatFit x = Check.object("A=abc", "abd");
        Check.equal("one becomes another", x.needed(), 1);
        Check.line(x, "abcd");
        Check.equal("one goes", x.needed(), 1);
        Check.line(x, "ac");
        Check.equal("one comes", x.needed(), 1);
        Check.line(x, "cab");
        Check.equal("one goes, one comes", x.needed(), 2);
    }

    static void promise22EmptyLine() {
        PiecesThatFit x = Check.object("A=abcd", "");
        Check.tells("four come", x, x.needed(), 4, "1");
    }

    static void promise22FullLine() {
        PiecesThatFit x = new PiecesThatFit();
        Check.line(x, FULL_LINE);
        Check.tells("all go", x, x.needed(), 14, "14");
        Check.grammar(x, FIFTEEN);
        Check.tells("a fifteenth comes", x, x.needed(), 1, "1");
    }

    static void promise22LongestSentence() {
        PiecesThatFit x = Check.object(LONGEST, "");
        Check.tells("all come", x, x.needed(), 4096, "1");
        Check.line(x, FULL_LINE);
        Check.tells("fourteen are there", x, x.needed(), 4082, "1");
        Check.line(x, "bbbbbbbbbbbbbb");
        Check.tells("fourteen become others", x, x.needed(), 4096, "14");
    }

    static void promise22PiecesAreNotLed() {
        PiecesThatFit x = Check.object("A=cAd|e", "caaad", "cd");
        Check.equal("led", x.led(), 1);
        Check.tells("two go, one becomes e", x, x.needed(), 3, "3");
    }

    static void promise22ChangesNothing() {
        Untouched.butRow("of the rich one: acedbhb becomes acb", 4, PiecesThatFit::needed);
    }

    static void promise23OutOfPlaces() {
        PiecesThatFit x = Check.object("A=ab", "ab");
        Check.tells("the first", x, x.without(1), 1, "-1");
        Check.tells("the last", x, x.without(2), 1, "-1");
        int[] others = {0, 3, -1, MIN, MAX};
        for (int p : others) {
            Check.tells("without(" + p + ")", x, x.without(p), -1, "-1");
        }
    }

    static void promise23BelowZero() {
        PiecesThatFit x = Check.object("A=abc", "abc");
        Check.tells("one more", x, x.without(2), 1, "-1");
        Check.line(x, "ac");
        Check.tells("as many", x, x.without(1), 1, "0");
        Check.line(x, "abbc");
        Check.tells("one fewer", x, x.without(2), 0, "1");
    }

    static void promise23EmptyLine() {
        PiecesThatFit x = new PiecesThatFit();
        Check.equal("^", x.without(0), -1);
        Check.equal("$", x.without(1), -1);
        Check.equal("nothing told", x.count(6), 0);
    }

    static void promise23OneSign() {
        PiecesThatFit x = Check.object("A=", "a");
        Check.tells("the empty line is left", x, x.without(1), 0, "1");
        Check.grammar(x, "A=a");
        Check.tells("the empty line is left", x, x.without(1), 1, "-1");
    }

    static void promise23FullLine() {
        PiecesThatFit x = Check.object("A=aA|", "baaaaaaaaaaaab");
        Check.tells("the first", x, x.without(1), 1, "1");
        Check.tells("the last", x, x.without(14), 1, "1");
        Check.tells("another", x, x.without(2), 2, "0");
        Check.tells("$", x, x.without(15), -1, "0");
    }

    static void promise23PiecesAreNotLed() {
        PiecesThatFit x = Check.object("A=cAd|e", "caaad", "cd");
        Check.equal("led", x.led(), 1);
        Check.tells("two are left", x, x.without(2), 2, "1");
    }

    static void promise23ChangesNothing() {
        Untouched.by("no place", -1, x -> x.without(0));
        Untouched.by("no place", -1, x -> x.without(8));
        Untouched.butRow("the last", 3, x -> x.without(7));
    }

    static void promise24EmptyLine() {
        PiecesThatFit x = Check.object("A=a", "");
        x.longest();
        Check.tells("-2", x, x.blames(), -2, "0 1");
    }

    static void promise24OneSign() {
        PiecesThatFit x = Check.object("A=a", "a");
        Check.tells("it, though it is worse then", x, x.blames(), 1, "1");
    }

    static void promise24FirstOfEqualOnes() {
        PiecesThatFit x = Check.object("A=aA|", "aabbaa");
        Check.tells("the first b", x, x.blames(), 3, "1");
        Check.line(x, FULL_LINE);
        Check.tells("all are alike", x, x.blames(), 1, "0");
    }

    static void promise24FullLine() {
        PiecesThatFit x = Check.object("A=aA|", "aaaaaaaaaaaaab");
        Check.tells("the last", x, x.blames(), 14, "0");
        Check.grammar(x, "A=c");
        Check.tells("thirteen stay", x, x.blames(), 1, "13");
    }

    static void promise24PiecesAreNotLed() {
        PiecesThatFit x = Check.object("A=cAd|e", "caaad", "cd");
        Check.equal("led", x.led(), 1);
        Check.tells("two are left", x, x.blames(), 2, "2");
    }

    static void promise24ChangesNothing() {
        Untouched.by("an empty line", () -> {
            PiecesThatFit x = Untouched.rich();
            x.sheet(3, 0, 0, 0);
            return x;
        }, -2, PiecesThatFit::blames);
        Untouched.butRow("of the rich one", 3, PiecesThatFit::blames);
    }

    static void promise25EqualOnes() {
        PiecesThatFit x = Check.object("A=aAb|", "abab");
        Check.tells("^ab and ab$", x, x.longest(), 3, "0 3");
        Check.grammar(x, "A=c");
        Check.tells("^ and $", x, x.longest(), 1, "0 1");
    }

    static void promise25BehindBegin() {
        PiecesThatFit x = Check.object("A=bab", "ab");
        Check.tells("from place 1 on", x, x.longest(), 3, "1 4");
        Check.line(x, "cccb");
        Check.tells("the last sign and $", x, x.longest(), 2, "4 6");
        Check.grammar(x, "A=habh|hcBh;B=de");
        Check.line(x, "abcde");
        Check.tells("ab, then cde", x, x.longest(), 3, "3 6");
    }

    static void promise25EmptyLine() {
        PiecesThatFit x = new PiecesThatFit();
        Check.tells("^$", x, x.longest(), 2, "0 2");
        Check.tells("^ alone", x = Check.object("A=a", ""), x.longest(), 1, "0 1");
    }

    static void promise25FullLine() {
        PiecesThatFit x = Check.object("A=aA|", FULL_LINE);
        Check.tells("all", x, x.longest(), 16, "0 16");
        Check.grammar(x, FIFTEEN);
        Check.tells("all but $", x, x.longest(), 15, "0 15");
        x.becomes(1, 1);
        Check.tells("from place 2 to $", x, x.longest(), 14, "2 16");
    }

    static void promise25ChangesNothing() {
        Untouched.butRow("of the rich one: ^ac", 3, PiecesThatFit::longest);
    }

    static void promise26PlaceThatNoPieceHas() {
        PiecesThatFit x = Check.object("A=a", "a");
        x.wide(1);
        x.needed();
        String[] lines = {"b", "ba", "ab", "bbbbbbbbbbbbbb"};
        for (String line : lines) {
            Check.line(x, line);
            Check.tells("no piece has the b of " + line, x, x.weakest(), -2, "0");
        }
    }

    static void promise26EqualPlaces() {
        PiecesThatFit x = Check.object("A=aAb|", "ab");
        Check.tells("all are alike", x, x.weakest(), 0, "0 4");
        Check.line(x, "aab");
        Check.tells("^aab, aab$ is not, ab$: $ has the shortest", x, x.weakest(), 4, "2 5");
        Check.grammar(x, "A=ab|ba|c");
        Check.line(x, "aabb");
        // ^a, ab, b$: no more than two go together
        Check.tells("all of two", x, x.weakest(), 0, "0 2");
    }

    static void promise26EqualPieces() {
        // ^ab, bc, cd, de$ fit, and nothing longer: c has bc and cd
        PiecesThatFit x = Check.object("A=abh|hbch|hcdh|hde", "abcde");
        Check.tells("the one that begins first", x, x.weakest(), 3, "2 4");
        // ^abc, bcd, defg$ fit: d has bcd, but defg$ is longer
        PiecesThatFit y = Check.object("A=abch|hBh|hdeC;B=bcd;C=fg", "abcdefg");
        Check.tells("of unlike ones the longest", y, y.weakest(), 0, "0 4");
    }

    static void promise26EmptyLine() {
        PiecesThatFit x = new PiecesThatFit();
        Check.tells("^$", x, x.weakest(), 0, "0 2");
        Check.tells("^ alone", x = Check.object("A=a", ""), x.weakest(), 0, "0 1");
    }

    static void promise26FullLine() {
        PiecesThatFit x = Check.object("A=aA|b", FULL_LINE);
        Check.tells("$, the last place", x, x.weakest(), 15, "15 16");
        Check.grammar(x, "A=Aa|");
        Check.tells("all fits", x, x.weakest(), 0, "0 16");
        Check.grammar(x, "A=Aa|b");
        Check.tells("^, the first place", x, x.weakest(), 0, "0 1");
    }

    static void promise26ChangesNothing() {
        Untouched.by("no piece has the e", -2, PiecesThatFit::weakest);
        Untouched.butRow("aaaa: $ alone", () -> {
            PiecesThatFit x = Untouched.rich();
            x.sheet(0, 4, 0, 0);
            return x;
        }, 5, PiecesThatFit::weakest);
    }

    static void promise27AnotherK() {
        PiecesThatFit x = Check.object("A=aAb|", "ab");
        Check.tells("one place", x, x.wide(1), 4, "");
        Check.tells("all places", x, x.wide(4), 1, "");
        x.longest();
        int[] others = {0, 5, -1, MIN, MAX};
        for (int k : others) {
            Check.tells("wide(" + k + ")", x, x.wide(k), -1, "0 4");
        }
    }

    static void promise27NothingIfAllDo() {
        PiecesThatFit x = Check.object("A=aAb|", "abb");
        x.longest();
        Check.tells("all do", x, x.wide(1), 5, "");
        Check.tells("all do", x, x.wide(2), 4, "");
        Check.tells("all but one", x, x.wide(4), 1, "0");
        Check.tells("none does", x, x.wide(5), 0, "0");
    }

    static void promise27FirstThatDoesNot() {
        PiecesThatFit x = Check.object("A=a", "abb");
        Check.tells("b at 2 and 3", x, x.wide(1), 3, "2");
        Check.line(x, "aab");
        Check.tells("the last one alone", x, x.wide(1), 4, "3");
    }

    static void promise27EmptyLine() {
        PiecesThatFit x = Check.object("A=a", "");
        Check.tells("^ and $", x, x.wide(1), 2, "");
        Check.tells("^$", x, x.wide(2), 0, "0");
        Check.tells("of three", x, x.wide(3), -1, "0");
    }

    static void promise27FullLine() {
        PiecesThatFit x = Check.object("A=aA|", FULL_LINE);
        Check.tells("of one", x, x.wide(1), 16, "");
        Check.tells("of sixteen", x, x.wide(16), 1, "");
        Check.tells("of seventeen", x, x.wide(17), -1, "");
        x.becomes(14, 1);
        Check.tells("the last sign", x, x.wide(1), 15, "14");
    }

    static void promise27ChangesNothing() {
        Untouched.by("of no places", -1, x -> x.wide(0));
        Untouched.by("of ten", -1, x -> x.wide(10));
        Untouched.butRow("of one", 6, x -> x.wide(1));
    }

    /** i and j of pieces of some places each, the first beginning at a place, each other one place on. */
    private static String each(int first, int places, int count) {
        StringBuilder b = new StringBuilder();
        for (int i = first; i < first + count; i++) {
            b.append(b.length() > 0 ? " " : "").append(i).append(' ').append(i + places);
        }
        return b.toString();
    }
}
