/** Promises 1 to 9. */
public final class TextsTest {
    public static void main(String[] args) {
        newObject();
        sign();
        end();
        grammarTaken();
        grammarRefused();
        grammarWithoutSentence();
        line();
        brackets();
        symbol();
        at();
        sheet();
        sheetAndUndo();
        Check.finish();
    }

    private static void newObject() {
        PiecesThatFit x = new PiecesThatFit();
        int[] counts = {0, 1, 1, 0, 0, 0, 0, 0, 0};
        for (int what = 0; what < counts.length; what++) {
            Check.equal("count(" + what + ") of a new object", x.count(what), counts[what]);
        }
        Check.equal("the empty line is a sentence", x.sentence(), 1);
        Check.throwsNoSuch("A= has no symbol", () -> x.symbol(0, 0));
        Check.equal("nothing to undo", x.undo(), -1);
        Check.isFalse("nothing kept", x.again(0));
        Check.equal("NONE", PiecesThatFit.NONE, -1);
    }

    private static void sign() {
        PiecesThatFit x = new PiecesThatFit();
        for (int k = 1; k <= 20; k++) {
            Check.equal("sign " + k, x.sign(0x61626364), 4 * k);
        }
        Check.equal("above 80", x.sign(0), -1);
        Check.equal("a refused sign() changes nothing", x.count(7), 80);
        x.end(77);
        Check.equal("81 would be there", x.sign(0), -1);
        x.end(76);
        Check.equal("80 are", x.sign(0), 80);
        x.end(0);
        x.sign(0x68676665);
        Check.equal("highest byte first", x.line(), 4);
        Check.equal("highest byte first", Check.lineOf(x), "hgfe");
        x.sign(0xff616161);
        Check.equal("a byte above 127 is no sign", x.line(), -1);
    }

    private static void end() {
        PiecesThatFit x = new PiecesThatFit();
        Check.isTrue("nothing of nothing", x.end(0));
        Check.isFalse("not so many", x.end(1));
        x.sign(0x61626364);
        Check.isFalse("below 0", x.end(-1));
        Check.isFalse("not so many", x.end(5));
        Check.equal("nothing changed", x.count(7), 4);
        Check.isTrue("all", x.end(4));
        Check.isTrue("two", x.end(2));
        Check.equal("two", x.count(7), 2);
        Check.isFalse("the others are gone", x.end(3));
        Check.equal("two signs", x.line(), 2);
        Check.equal("the text is read", x.count(7), 0);
    }

    private static void grammarTaken() {
        PiecesThatFit x = new PiecesThatFit();
        Check.equal("all empty", Check.grammar(x, "F=|||"), 4);
        Check.equal("START", x.count(3), 5);
        Check.equal("capitals", x.count(2), 32);
        Check.equal("twelve", Check.grammar(x, "A=a|b|c|d|e|f;B=a|b|c|d|e|f"), 12);
        Check.equal("six rules", Check.grammar(x, "C=ABDE;A=;B=;D=;E=F;F=aaaa"), 6);
        Check.equal("START", x.count(3), 2);
        Check.equal("capitals", x.count(2), 63);
        Check.equal("all can be undone", x.count(5), 3);
        Check.equal("unproductive ones beside", Check.grammar(x, "A=a|B;B=bB"), 3);
    }

    private static void grammarRefused() {
        PiecesThatFit x = new PiecesThatFit();
        Check.grammar(x, "B=ab");
        String[] texts = {"", "A", "=", "a=", "G=a", "A==", "AB", "A=a;", "A=a;;", "A=a;B", "A=a;A=b", "A=i", "A=aaaaa",
            "A=AAAAA", "A=aaaa|bbbbb", "A=a|G", "A=a B=b", "A=a|b|c|d|e|f|g|h|a|b|c|d|e",
            "A=a|b|c|d|e|f|g|h|a|b|c|d;B=", "A=|||||||||||;B", "A=a=", "|"};
        int[] places = {0, 1, 0, 0, 0, 2, 1, 4, 4, 5, 4, 2, 6,
            6, 11, 4, 3, 25, 27, 15, 3, 0};
        for (int k = 0; k < texts.length; k++) {
            Check.equal("grammar \"" + texts[k] + "\"", Check.grammar(x, texts[k]), -1 - places[k]);
            Check.equal("the text is empty then", x.count(7), 0);
        }
        Check.equal("the grammar stays", x.count(2), 2);
        Check.equal("the grammar stays", x.symbol(0, 1), 1);
        Check.equal("nothing more to undo", x.count(5), 1);
        Check.equal("signs are asked first", Check.grammar(x, "A=B;C"), -6);
        Check.equal("rules are asked then", Check.grammar(x, "A=AB"), -201);
        Check.equal("of each alternative", Check.grammar(x, "A=a|aF"), -201);
    }

    private static void grammarWithoutSentence() {
        PiecesThatFit x = new PiecesThatFit();
        Check.equal("itself alone", Check.grammar(x, "A=A"), -200);
        Check.equal("two of each other", Check.grammar(x, "A=aB;B=bA"), -200);
        Check.equal("others yield something", Check.grammar(x, "A=aA;B=b"), -200);
        Check.equal("an end far away", Check.grammar(x, "A=aB;B=C|bA;C=|A"), 5);
        Check.equal("only that was taken", x.count(5), 1);
    }

    private static void line() {
        PiecesThatFit x = new PiecesThatFit();
        Check.equal("fourteen", Check.line(x, "abcdefghabcdef"), 14);
        Check.equal("they stand", Check.lineOf(x), "abcdefghabcdef");
        Check.equal("a fifteenth", Check.line(x, "aaaaaaaaaaaaaaa"), -15);
        Check.equal("an i", Check.line(x, "ai"), -2);
        Check.equal("a capital", Check.line(x, "A"), -1);
        Check.equal("the first that can't", Check.line(x, "aaaaZaaaaaaaaaaaaaaa"), -5);
        Check.equal("the line stays", Check.lineOf(x), "abcdefghabcdef");
        Check.equal("one can be undone", x.count(5), 1);
        Check.equal("an empty one", Check.line(x, ""), 0);
        Check.equal("an empty one", x.count(0), 0);
        Check.equal("two can be undone", x.count(5), 2);
    }

    private static void brackets() {
        PiecesThatFit x = new PiecesThatFit();
        Check.equal("three pairs", Check.brackets(x, "hgfedc"), 3);
        Check.equal("three pairs", x.count(4), 3);
        Check.equal("a seventh", Check.brackets(x, "abcdefg"), -7);
        Check.equal("a pair of like ones", Check.brackets(x, "aa"), -2);
        Check.equal("told already", Check.brackets(x, "abcb"), -4);
        Check.equal("ends in a pair", Check.brackets(x, "a"), -2);
        Check.equal("ends in a pair", Check.brackets(x, "abcde"), -6);
        Check.equal("no sign", Check.brackets(x, "abi"), -3);
        Check.equal("three pairs still", x.count(4), 3);
        Check.equal("none", Check.brackets(x, ""), 0);
        Check.equal("none", x.count(4), 0);
        Check.equal("two can be undone", x.count(5), 2);
        Check.equal("undone", x.undo(), 1);
        Check.equal("three pairs again", x.count(4), 3);
    }

    private static void symbol() {
        PiecesThatFit x = Check.object("B=|aBhF;F=E|;E=A;A=", "");
        Check.equal("a", x.symbol(1, 0), 0);
        Check.equal("B", x.symbol(1, 1), 9);
        Check.equal("h", x.symbol(1, 2), 7);
        Check.equal("F", x.symbol(1, 3), 13);
        Check.equal("A", x.symbol(4, 0), 8);
        Check.throwsNoSuch("empty", () -> x.symbol(0, 0));
        Check.throwsNoSuch("behind", () -> x.symbol(1, 4));
        Check.throwsNoSuch("behind all", () -> x.symbol(6, 0));
        Check.throwsNoSuch("below 0", () -> x.symbol(-1, 0));
        Check.throwsNoSuch("below 0", () -> x.symbol(1, -1));
        Check.throwsNoSuch("far", () -> x.symbol(Integer.MAX_VALUE, Integer.MIN_VALUE));
        Check.grammar(x, "A=a");
        Check.throwsNoSuch("of an older grammar", () -> x.symbol(1, 0));
    }

    private static void at() {
        PiecesThatFit x = Check.object("A=", "ha");
        Check.equal("h", x.at(1), 7);
        Check.equal("a", x.at(2), 0);
        Check.throwsNoSuch("^", () -> x.at(0));
        Check.throwsNoSuch("$", () -> x.at(3));
        Check.throwsNoSuch("below", () -> x.at(Integer.MIN_VALUE));
        x.goes(1);
        Check.equal("a", x.at(1), 0);
        Check.throwsNoSuch("gone", () -> x.at(2));
    }

    private static void sheet() {
        PiecesThatFit x = new PiecesThatFit();
        Check.equal("bytes", x.sheet(0, 4, 126, 1), 4);
        Check.equal("126, 127, -128, -127", Check.lineOf(x), "ghab");
        Check.equal("shorts", x.sheet(1, 3, -3, -5), 3);
        Check.equal("-3, -8, -13", Check.lineOf(x), "fad");
        Check.equal("ints", x.sheet(2, 3, Integer.MAX_VALUE, 2), 3);
        Check.equal("7, then wrapped: 1, 3", Check.lineOf(x), "hbd");
        Check.equal("none", x.sheet(2, 0, 5, 5), 0);
        Check.equal("none", x.count(0), 0);
        Check.equal("fourteen", x.sheet(0, 14, 0, 1), 14);
        Check.equal("fifteen", x.sheet(0, 15, 0, 1), -1);
        Check.equal("another kind", x.sheet(4, 1, 0, 0), -1);
        Check.equal("another kind", x.sheet(-1, -1, 0, 0), -1);
        Check.equal("below 0", x.sheet(1, -1, 0, 0), -2);
        Check.equal("below 0", x.sheet(2, Integer.MIN_VALUE, 0, 0), -2);
        Check.equal("too many ahead of missing", x.sheet(3, 15, 0, 0), -1);
        Check.equal("refused ones change nothing", Check.lineOf(x), "abcdefghabcdef");
        Check.equal("missing", x.sheet(3, -7, 0, 0), -3);
        Check.equal("missing: empty", x.count(0), 0);
    }

    private static void sheetAndUndo() {
        PiecesThatFit x = new PiecesThatFit();
        Check.line(x, "ab");
        Check.line(x, "cd");
        x.sheet(0, 3, 7, 0);
        Check.equal("a sheet can't be undone", x.count(5), 2);
        Check.equal("line() is", x.undo(), 1);
        Check.equal("as ahead of line()", Check.lineOf(x), "ab");
        x.sheet(3, 0, 0, 0);
        Check.equal("the first line()", x.undo(), 0);
        Check.equal("as ahead of it", Check.lineOf(x), "");
    }
}
