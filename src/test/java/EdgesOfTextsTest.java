/** Each sentence of promises 1 to 9 that names an edge has a test of its own here. */
public final class EdgesOfTextsTest {
    private static final int MIN = Check.MIN;
    private static final int MAX = Check.MAX;
    private static final String FULL_LINE = "abcdefghabcdef";
    /** Six rules, twelve alternatives of four symbols each: no grammar is longer. */
    private static final String FULL_GRAMMAR =
        "F=ABCD|abcd;A=bcde|BCDE;B=cdef|CDEF;C=defg|DEFA;D=efgh|EFAB;E=FABC|ghab";

    public static void main(String[] args) {
        Check.runAll(EdgesOfTextsTest.class);
    }

    static void promise01NewObject() {
        PiecesThatFit x = new PiecesThatFit();
        int[] counts = {0, 1, 1, 0, 0, 0, 0, 0, 0};
        for (int what = 0; what < counts.length; what++) {
            Check.equal("count(" + what + ")", x.count(what), counts[what]);
        }
        Check.throwsNoSuch("no symbol", () -> x.symbol(0, 0));
        Check.throwsNoSuch("no second alternative", () -> x.symbol(1, 0));
        Check.throwsNoSuch("no sign", () -> x.at(1));
        Check.throwsNoSuch("no number", () -> x.row(0));
        Check.equal("nothing to undo", x.undo(), -1);
        Check.isFalse("nothing is kept under 0", x.again(0));
        Check.isFalse("nothing is kept under 1", x.again(1));
        Check.equal("nothing is kept", x.apart(0, 5), -3);
    }

    static void promise01OneEmptySentence() {
        PiecesThatFit x = new PiecesThatFit();
        Check.equal("the empty line is it", x.sentence(), 1);
        int[] due = {1, 1, 1, 1, 0, 0, 0, 0};
        for (int what = 0; what < due.length; what++) {
            Check.equal("capital(0, " + what + ")", x.capital(0, what), due[what]);
            Check.equal("there is no B", x.capital(1, what), -1);
        }
        Check.tells("one of no signs", x, x.sentences(0), 1, "");
        Check.tells("none of one", x, x.sentences(1), 0, "");
        Check.tells("none of five", x, x.sentences(5), 0, "");
        Check.tells("^ and $ beside one another", x, x.next(0, 1), 256, "1");
        Check.tells("^ and $ beside one another", x, x.ahead(1, 2), 256, "1");
        Check.tells("behind nothing", x, x.next(1, 1), 256, "1");
        Check.tells("all fits", x, x.longest(), 2, "0 2");
        Check.line(x, "a");
        Check.tells("no sign fits", x, x.report(), 1, "1 2");
        Check.equal("it must go", x.needed(), 1);
    }

    static void promise02HighestByteFirst() {
        PiecesThatFit x = new PiecesThatFit();
        x.sign(0x61626364);
        Check.equal("they come behind", x.sign(0x68676665), 8);
        Check.equal("eight signs", x.line(), 8);
        Check.equal("in order", Check.lineOf(x), "abcdhgfe");
    }

    static void promise02FullText() {
        PiecesThatFit x = new PiecesThatFit();
        for (int k = 1; k <= 20; k++) {
            Check.equal("sign() for the time " + k, x.sign(0x61616161), 4 * k);
        }
        Check.equal("80 are there", x.count(7), 80);
        Check.equal("84 would be", x.sign(0x61616161), -1);
        Check.equal("80 are there still", x.count(7), 80);
    }

    static void promise02MoreThan80() {
        for (int size = 77; size <= 80; size++) {
            PiecesThatFit x = fullText();
            x.end(size);
            Check.equal(size + " and 4 are more than 80", x.sign(0), -1);
            Check.equal("none of the four came", x.count(7), size);
        }
        PiecesThatFit y = fullText();
        y.end(76);
        Check.equal("76 and 4 are not", y.sign(0), 80);
    }

    static void promise02EndsOfInt() {
        int[] numbers = {MIN, MAX, -1, 0};
        PiecesThatFit x = new PiecesThatFit();
        for (int k = 0; k < numbers.length; k++) {
            Check.equal("sign(" + numbers[k] + ")", x.sign(numbers[k]), 4 * k + 4);
        }
        Check.equal("bytes 128, 0, 0, 0 are no signs", x.line(), -1);
        x.sign(0xe1616161);
        Check.equal("a byte is not cut to seven bits", x.line(), -1);
        x.sign(0x61e16161);
        Check.equal("a byte leaves the one ahead alone", x.line(), -2);
        x.sign(0x616161e1);
        Check.equal("the lowest byte is the fourth", x.line(), -4);
    }

    static void promise02RefusedChangesNothing() {
        Untouched.by("a fifth four would make 81", () -> {
            PiecesThatFit x = Untouched.rich();
            x.end(1);
            for (int k = 0; k < 19; k++) {
                x.sign(0x61616161);
            }
            return x;
        }, -1, x -> x.sign(0x62626262));
    }

    static void promise03EmptyText() {
        PiecesThatFit x = new PiecesThatFit();
        Check.isTrue("nothing of nothing", x.end(0));
        Check.isFalse("one of nothing", x.end(1));
        Check.isFalse("below 0", x.end(-1));
        Check.equal("empty", x.count(7), 0);
    }

    static void promise03NotSoMany() {
        PiecesThatFit x = new PiecesThatFit();
        x.sign(0x61626364);
        Check.isFalse("five of four", x.end(5));
        Check.isTrue("four of four", x.end(4));
        Check.isTrue("three of four", x.end(3));
        Check.isFalse("the fourth is gone", x.end(4));
        Check.equal("three", x.count(7), 3);
        x.sign(0x65666768);
        Check.equal("others come behind the third", x.line(), 7);
        Check.equal("abc, then efgh", Check.lineOf(x), "abcefgh");
    }

    static void promise03FullText() {
        PiecesThatFit x = fullText();
        Check.isFalse("81 of 80", x.end(81));
        Check.isTrue("80 of 80", x.end(80));
        Check.equal("80", x.count(7), 80);
        Check.isTrue("none of 80", x.end(0));
        Check.equal("none", x.count(7), 0);
    }

    static void promise03BelowZero() {
        PiecesThatFit x = new PiecesThatFit();
        x.sign(0);
        Check.isFalse("-1", x.end(-1));
        Check.equal("four still", x.count(7), 4);
        Check.isTrue("0", x.end(0));
    }

    static void promise03EndsOfInt() {
        PiecesThatFit x = new PiecesThatFit();
        x.sign(0);
        Check.isFalse("the greatest", x.end(MAX));
        Check.isFalse("the least", x.end(MIN));
        Check.equal("four still", x.count(7), 4);
    }

    static void promise03RefusedChangesNothing() {
        Untouched.by("not so many", 0, x -> x.end(4) ? 1 : 0);
        Untouched.by("below 0", 0, x -> x.end(-1) ? 1 : 0);
    }

    static void promise04EmptyText() {
        refused("", 0);
    }

    static void promise04EndsTooEarly() {
        refused("A", 1);
        refused("A=;", 3);
        refused("A=;B", 4);
        refused("A=abcd|B;", 9);
        taken("A=", 1);
        taken("A=|", 2);
        taken("A=;B=", 2);
    }

    static void promise04BeginOfRule() {
        taken("A=", 1);
        taken("F=", 1);
        refused("@=", 0);
        refused("G=", 0);
        refused("a=", 0);
        refused(";A=", 0);
        refused("|", 0);
        refused("=", 0);
        refused("A=;;B=", 3);
        refused("A=; B=", 3);
        refused("A=;@=", 3);
        refused("A=;G=", 3);
    }

    static void promise04SignBehindCapital() {
        refused("A;", 1);
        refused("A|", 1);
        refused("Aa", 1);
        refused("AA", 1);
        refused("A<", 1);
        refused("A>", 1);
    }

    static void promise04SignsInAlternative() {
        taken("A=a", 1);
        taken("A=h", 1);
        refused("A=`", 2);
        refused("A=i", 2);
        taken("A=a|A", 2);
        taken("A=a|F;F=", 3);
        refused("A=@", 2);
        refused("A=G", 2);
        refused("A==", 2);
        refused("A=a ", 3);
        refused("A=a:", 3);
        refused("A=a<", 3);
        refused("A=a{", 3);
        refused("A=a}", 3);
        refused("A=\0", 2);
        refused("A=\u00e1", 2);
        refused("A=\u00ff", 2);
    }

    static void promise04CapitalHasItsRule() {
        refused("A=a;A=b", 4);
        refused("A=a;A", 4);
        refused("A=a;B=b;B=", 8);
        refused("A=a;B=b;A=", 8);
        refused("A=;B=;C=;D=;E=;F=;A=", 18);
        taken("A=;B=;C=;D=;E=;F=", 6);
    }

    static void promise04FifthSymbol() {
        taken("A=", 1);
        taken("A=abcd", 1);
        refused("A=abcde", 6);
        taken("A=|AAAA", 2);
        refused("A=|AAAAA", 7);
        refused("A=abcdE", 6);
        refused("A=abcd|efghb", 11);
        taken("A=abcd|efgh;B=abcd", 3);
        refused("A=abcdi", 6);
    }

    static void promise04ThirteenthByBar() {
        taken("A=|||||||||||", 12);
        refused("A=||||||||||||", 13);
        taken("A=a|b|c|d|e|f;B=a|b|c|d|e|f", 12);
        refused("A=a|b|c|d|e|f;B=a|b|c|d|e|f|", 27);
    }

    static void promise04ThirteenthByEquals() {
        taken("A=||||||||||;B=", 12);
        refused("A=|||||||||||;B=", 15);
        refused("A=|||||||||||;B", 15);
        refused("A=|||||||||||;A", 14);
    }

    static void promise04FullGrammar() {
        PiecesThatFit x = new PiecesThatFit();
        Check.equal("71 signs", FULL_GRAMMAR.length(), 71);
        Check.equal("twelve alternatives", Check.grammar(x, FULL_GRAMMAR), 12);
        Check.equal("all their symbols", Check.symbolsOf(x),
            "ABCD abcd bcde BCDE cdef CDEF defg DEFA efgh EFAB FABC ghab ");
        Check.equal("all capitals", x.count(2), 63);
        Check.equal("START is F", x.count(3), 5);
        for (int c = 0; c < 6; c++) {
            Check.equal("two alternatives each", x.capital(c, 0), 2);
        }
        Check.equal("all signs", x.count(8), 255);
        refused(FULL_GRAMMAR + "|", 71);
        refused(FULL_GRAMMAR + "a", 71);
        refused(FULL_GRAMMAR + ";aaaaaaaa", 72);
    }

    static void promise04FullText() {
        PiecesThatFit x = fullText();
        Check.equal("80 signs a", x.grammar(), -1);
        String text = "A=" + "abcd|".repeat(11) + "abcd";
        Check.equal("twelve alternatives of one rule", Check.grammar(x, text), 12);
        refused(text + "|".repeat(80 - text.length()), text.length());
        refused(text + ";B=" + "a".repeat(77 - text.length()), text.length() + 2);
    }

    static void promise04CapitalWithoutRule() {
        answers("A=B", -201);
        answers("A=a|aF", -201);
        answers("A=a;B=C", -201);
        answers("A=aaaB", -201);
        answers("B=b|A", -201);
        for (char c = 'A'; c <= 'F'; c++) {
            String other = c == 'C' ? "D" : "C";
            answers(other + "=a|" + c, -201);
            answers(other + "=a|" + c + ";" + c + "=", 3);
        }
        taken("A=a;B=B", 2);
    }

    static void promise04NoSentence() {
        answers("A=A", -200);
        answers("A=aA|Ab", -200);
        answers("A=B;B=A", -200);
        answers("A=aB;B=bC;C=c|;D=E;E=D", 6);
        answers("D=E;E=D;A=aB;B=bC;C=c|", -200);
        answers("A=a|A", 2);
    }

    static void promise04AskedInThisOrder() {
        answers("A=B;C", -6);
        answers("A=A;B=C;", -9);
        answers("A=AB", -201);
        answers("A=A;B=C", -201);
        answers("A=A", -200);
    }

    static void promise04RefusedChangesNothing() {
        Untouched.butText("a sign that can't stand", -5, x -> Check.grammar(x, "A=ab!"));
        Untouched.butText("its end", -2, x -> Check.grammar(x, "A"));
        Untouched.butText("a thirteenth", -14, x -> Check.grammar(x, "A=||||||||||||"));
        Untouched.butText("a capital without a rule", -201, x -> Check.grammar(x, "A=a|B"));
        Untouched.butText("no sentence", -200, x -> Check.grammar(x, "F=F|aF"));
        Untouched.butText("an empty text", -1, x -> Check.grammar(x, ""));
    }

    static void promise05EmptyText() {
        PiecesThatFit x = Check.object("A=a", "abc");
        Check.equal("no signs", Check.line(x, ""), 0);
        Check.equal("no signs", x.count(0), 0);
        Check.throwsNoSuch("none stands", () -> x.at(1));
    }

    static void promise05Fifteenth() {
        PiecesThatFit x = new PiecesThatFit();
        Check.equal("thirteen", Check.line(x, FULL_LINE.substring(1)), 13);
        Check.equal("fourteen", Check.line(x, FULL_LINE), 14);
        Check.equal("they stand", Check.lineOf(x), FULL_LINE);
        Check.equal("a fifteenth", Check.line(x, FULL_LINE + "a"), -15);
        Check.equal("a fifteenth that is no sign", Check.line(x, FULL_LINE + "z"), -15);
        Check.equal("a wrong one ahead of it", Check.line(x, FULL_LINE.substring(1) + "zaa"), -14);
        Check.equal("they stand still", Check.lineOf(x), FULL_LINE);
    }

    static void promise05FullText() {
        PiecesThatFit x = fullText();
        Check.equal("80 signs", x.line(), -15);
        Check.equal("THE TEXT is empty", x.count(7), 0);
    }

    static void promise05SignsAToH() {
        PiecesThatFit x = new PiecesThatFit();
        Check.equal("a and h", Check.line(x, "ah"), 2);
        String[] others = {"`", "i", "A", "H", "1", " ", "\0", "\u00e1", "\u00ff"};
        for (String other : others) {
            Check.equal("at the begin", Check.line(x, other + "aa"), -1);
            Check.equal("in the middle", Check.line(x, "a" + other + "a"), -2);
            Check.equal("at the end", Check.line(x, "aa" + other), -3);
        }
    }

    static void promise05RefusedChangesNothing() {
        Untouched.butText("a sign that can't stand", -3, x -> Check.line(x, "abi"));
        Untouched.butText("a fifteenth", -15, x -> Check.line(x, FULL_LINE + "g"));
    }

    static void promise06EmptyText() {
        PiecesThatFit x = Check.object("A=", "ab", "ab");
        Check.equal("a pair", x.mate(1), 2);
        Check.equal("none", Check.brackets(x, ""), 0);
        Check.equal("none", x.count(4), 0);
        Check.equal("none", x.mate(1), -2);
    }

    static void promise06Seventh() {
        PiecesThatFit x = new PiecesThatFit();
        Check.equal("two pairs", Check.brackets(x, "abcd"), 2);
        Check.equal("three pairs", Check.brackets(x, "ahbgcf"), 3);
        Check.equal("a seventh", Check.brackets(x, "ahbgcfd"), -7);
        Check.equal("a seventh of four pairs", Check.brackets(x, "ahbgcfde"), -7);
        Check.equal("a seventh that was told", Check.brackets(x, "ahbgcfa"), -7);
        Check.equal("a seventh that is no sign", Check.brackets(x, "ahbgcf!"), -7);
        Check.equal("one told ahead of it", Check.brackets(x, "ahbgcag"), -6);
    }

    static void promise06EndsInPair() {
        PiecesThatFit x = new PiecesThatFit();
        Check.equal("one sign", Check.brackets(x, "a"), -2);
        Check.equal("three", Check.brackets(x, "abc"), -4);
        Check.equal("five", Check.brackets(x, "abcde"), -6);
        Check.equal("two", Check.brackets(x, "ab"), 1);
    }

    static void promise06OneThatWasTold() {
        PiecesThatFit x = new PiecesThatFit();
        Check.equal("a pair of like ones", Check.brackets(x, "aa"), -2);
        Check.equal("an opening one again", Check.brackets(x, "abac"), -3);
        Check.equal("a closing one again", Check.brackets(x, "abcb"), -4);
        Check.equal("the first as the last", Check.brackets(x, "hgfedh"), -6);
        Check.equal("one told ahead of an end in a pair", Check.brackets(x, "aba"), -3);
        Check.equal("all unlike", Check.brackets(x, "hgfedc"), 3);
    }

    static void promise06SignsAToH() {
        PiecesThatFit x = new PiecesThatFit();
        Check.equal("a and h", Check.brackets(x, "ah"), 1);
        String[] others = {"`", "i", "A", "(", "\0", "\u00e1"};
        for (String other : others) {
            Check.equal("as the opening one", Check.brackets(x, other + "a"), -1);
            Check.equal("as the closing one", Check.brackets(x, "a" + other), -2);
        }
    }

    static void promise06FullText() {
        Check.equal("80 signs a: the second was told", fullText().brackets(), -2);
    }

    static void promise06RefusedChangesNothing() {
        Untouched.butText("a seventh", -7, x -> Check.brackets(x, "hgfedcb"));
        Untouched.butText("an end in a pair", -2, x -> Check.brackets(x, "h"));
        Untouched.butText("one that was told", -4, x -> Check.brackets(x, "hgfg"));
    }

    static void promise07AlternativeNone() {
        PiecesThatFit x = Check.object("A=ab|cd;B=ef|gh", "");
        Check.equal("the first", x.symbol(0, 0), 0);
        Check.equal("the last", x.symbol(3, 1), 7);
        Check.throwsNoSuch("below 0", () -> x.symbol(-1, 0));
        Check.throwsNoSuch("behind the last", () -> x.symbol(4, 0));
        Check.throwsNoSuch("the greatest", () -> x.symbol(MAX, 0));
        Check.throwsNoSuch("the least", () -> x.symbol(MIN, 0));
    }

    static void promise07SymbolNone() {
        PiecesThatFit x = Check.object("A=|a|bcde", "");
        Check.throwsNoSuch("of an empty alternative", () -> x.symbol(0, 0));
        Check.equal("of one", x.symbol(1, 0), 0);
        Check.throwsNoSuch("a second of one", () -> x.symbol(1, 1));
        Check.equal("a fourth", x.symbol(2, 3), 4);
        Check.throwsNoSuch("a fifth", () -> x.symbol(2, 4));
        Check.throwsNoSuch("below 0", () -> x.symbol(2, -1));
        Check.throwsNoSuch("the greatest", () -> x.symbol(2, MAX));
        Check.throwsNoSuch("the least", () -> x.symbol(2, MIN));
    }

    static void promise07FirstAndLastSymbols() {
        PiecesThatFit x = Check.object("F=ahAF|;A=", "");
        int[] due = {0, 7, 8, 13};
        for (int i = 0; i < 4; i++) {
            Check.equal("symbol " + i, x.symbol(0, i), due[i]);
        }
    }

    static void promise07FullGrammar() {
        PiecesThatFit x = Check.object(FULL_GRAMMAR, "");
        Check.equal("the last symbol of the last alternative", x.symbol(11, 3), 1);
        Check.throwsNoSuch("a thirteenth alternative", () -> x.symbol(12, 0));
        Check.throwsNoSuch("a fifth symbol", () -> x.symbol(11, 4));
    }

    static void promise07ThrowingChangesNothing() {
        Untouched.by("none such", Untouched.THROWS, x -> x.symbol(0, 3));
        Untouched.by("none such", Untouched.THROWS, x -> x.symbol(4, 0));
    }

    static void promise08NonePlace() {
        PiecesThatFit x = Check.object("A=", FULL_LINE);
        Check.throwsNoSuch("^", () -> x.at(0));
        Check.equal("the first", x.at(1), 0);
        Check.equal("the last", x.at(14), 5);
        Check.equal("h", x.at(8), 7);
        Check.throwsNoSuch("$", () -> x.at(15));
        Check.throwsNoSuch("below 0", () -> x.at(-1));
        Check.throwsNoSuch("the greatest", () -> x.at(MAX));
        Check.throwsNoSuch("the least", () -> x.at(MIN));
    }

    static void promise08EmptyLine() {
        PiecesThatFit x = new PiecesThatFit();
        Check.throwsNoSuch("^", () -> x.at(0));
        Check.throwsNoSuch("$", () -> x.at(1));
    }

    static void promise08ThrowingChangesNothing() {
        Untouched.by("none such", Untouched.THROWS, x -> x.at(0));
        Untouched.by("none such", Untouched.THROWS, x -> x.at(8));
    }

    static void promise09AnotherKind() {
        PiecesThatFit x = new PiecesThatFit();
        for (int kind = 0; kind <= 2; kind++) {
            Check.equal("kind " + kind, x.sheet(kind, 1, 0, 0), 1);
        }
        Check.equal("kind 3", x.sheet(3, 1, 0, 0), -3);
        Check.equal("kind 4", x.sheet(4, 1, 0, 0), -1);
        Check.equal("kind -1", x.sheet(-1, 1, 0, 0), -1);
        Check.equal("the greatest", x.sheet(MAX, 1, 0, 0), -1);
        Check.equal("the least", x.sheet(MIN, 1, 0, 0), -1);
    }

    static void promise09MoreThan14() {
        PiecesThatFit x = new PiecesThatFit();
        for (int kind = 0; kind <= 2; kind++) {
            Check.equal("fourteen", x.sheet(kind, 14, 0, 1), 14);
            Check.equal("they stand", Check.lineOf(x), FULL_LINE);
            Check.equal("fifteen", x.sheet(kind, 15, 1, 1), -1);
            Check.equal("the greatest", x.sheet(kind, MAX, 1, 1), -1);
            Check.equal("they stand still", Check.lineOf(x), FULL_LINE);
        }
    }

    static void promise09BelowZero() {
        PiecesThatFit x = new PiecesThatFit();
        for (int kind = 0; kind <= 2; kind++) {
            Check.line(x, "abc");
            Check.equal("-1", x.sheet(kind, -1, 1, 1), -2);
            Check.equal("the least", x.sheet(kind, MIN, 1, 1), -2);
            Check.equal("the line stays", Check.lineOf(x), "abc");
            Check.equal("none", x.sheet(kind, 0, 1, 1), 0);
            Check.equal("the line is empty", x.count(0), 0);
        }
    }

    static void promise09Missing() {
        int[] numbers = {MIN, -1, 0, 1, 14};
        for (int n : numbers) {
            PiecesThatFit x = Check.object("A=", "abc");
            Check.equal("sheet(3, " + n + ")", x.sheet(3, n, 5, 5), -3);
            Check.equal("the line is empty", x.count(0), 0);
        }
    }

    static void promise09NoneFirst() {
        PiecesThatFit x = Check.object("A=", "abc");
        Check.equal("missing, and more than 14", x.sheet(3, 15, 0, 0), -1);
        Check.equal("missing, and more than 14", x.sheet(3, MAX, 0, 0), -1);
        Check.equal("another kind, and below 0", x.sheet(4, -1, 0, 0), -1);
        Check.equal("another kind, and below 0", x.sheet(-1, MIN, 0, 0), -1);
        Check.equal("another kind, and more than 14", x.sheet(4, 15, 0, 0), -1);
        Check.equal("the line stays", Check.lineOf(x), "abc");
    }

    static void promise09ModuloZeroAtLeast() {
        PiecesThatFit x = new PiecesThatFit();
        for (int kind = 0; kind <= 2; kind++) {
            x.sheet(kind, 9, -1, -1);
            Check.equal("-1, -2, .., -9", Check.lineOf(x), "hgfedcbah");
            x.sheet(kind, 9, 7, 1);
            Check.equal("7, 8, .., 15", Check.lineOf(x), "habcdefgh");
        }
    }

    static void promise09WrapOfBytesAndShorts() {
        PiecesThatFit x = new PiecesThatFit();
        x.sheet(0, 3, 127, 1);
        Check.equal("127, -128, -127", Check.lineOf(x), "hab");
        x.sheet(0, 3, -128, -1);
        Check.equal("-128, 127, 126", Check.lineOf(x), "ahg");
        x.sheet(0, 3, 255, 257);
        Check.equal("255 is -1, 512 is 0, 769 is 1", Check.lineOf(x), "hab");
        x.sheet(1, 3, 32767, 1);
        Check.equal("32767, -32768, -32767", Check.lineOf(x), "hab");
        x.sheet(1, 3, -32768, -1);
        Check.equal("-32768, 32767, 32766", Check.lineOf(x), "ahg");
        x.sheet(1, 3, 65535, 65537);
        Check.equal("65535 is -1, 131072 is 0, 196609 is 1", Check.lineOf(x), "hab");
    }

    static void promise09WrapOfInts() {
        PiecesThatFit x = new PiecesThatFit();
        for (int kind = 0; kind <= 2; kind++) {
            x.sheet(kind, 3, MAX, 1);
            Check.equal("the greatest, the least, one more", Check.lineOf(x), "hab");
            x.sheet(kind, 3, MIN, -1);
            Check.equal("the least, the greatest, one less", Check.lineOf(x), "ahg");
            x.sheet(kind, 4, 1, MAX);
            Check.equal("1, the least, -1, -2 and the greatest", Check.lineOf(x), "bahg");
            x.sheet(kind, 4, 5, MIN);
            Check.equal("the least changes no lowest bits", Check.lineOf(x), "ffff");
        }
    }

    static void promise09NothingToUndo() {
        PiecesThatFit x = new PiecesThatFit();
        x.sheet(0, 5, 1, 1);
        x.sheet(3, 0, 0, 0);
        Check.equal("nothing can be undone", x.count(5), 0);
        Check.equal("refused", x.undo(), -1);
        Check.line(x, "ab");
        x.sheet(0, 5, 1, 1);
        Check.equal("line() alone", x.count(5), 1);
        Check.equal("is undone", x.undo(), 0);
        Check.equal("as ahead of it", x.count(0), 0);
    }

    static void promise09TextAndRowStay() {
        PiecesThatFit x = Untouched.rich();
        String row = Check.rowOf(x);
        x.sheet(2, 14, 0, 1);
        x.sheet(3, 0, 0, 0);
        Check.equal("THE TEXT stays", x.count(7), 3);
        Check.equal("the ROW stays", Check.rowOf(x), row);
    }

    static void promise09RefusedChangesNothing() {
        Untouched.by("another kind", -1, x -> x.sheet(4, 1, 1, 1));
        Untouched.by("more than 14", -1, x -> x.sheet(0, 15, 1, 1));
        Untouched.by("more than 14", -1, x -> x.sheet(3, 15, 1, 1));
        Untouched.by("below 0", -2, x -> x.sheet(2, -1, 1, 1));
    }

    private static PiecesThatFit fullText() {
        PiecesThatFit x = new PiecesThatFit();
        for (int k = 0; k < 20; k++) {
            x.sign(0x61616161);
        }
        Check.equal("a full text", x.count(7), 80);
        return x;
    }

    private static void taken(String text, int alternatives) {
        answers(text, alternatives);
    }

    private static void refused(String text, int place) {
        answers(text, -1 - place);
    }

    private static void answers(String text, int answer) {
        PiecesThatFit x = new PiecesThatFit();
        Check.equal("the grammar " + text, Check.grammar(x, text), answer);
        Check.equal("THE TEXT is empty", x.count(7), 0);
        Check.equal("what can be undone, after " + text, x.count(5), answer > 0 ? 1 : 0);
        Check.equal("alternatives, after " + text, x.count(1), answer > 0 ? answer : 1);
    }
}
