/** Promises 31 to 36. */
public final class ChangesTest {
    public static void main(String[] args) {
        becomes();
        comes();
        goes();
        day();
        dayThatStops();
        dayRefused();
        undo();
        undoOfTen();
        undoOfAll();
        years();
        Check.finish();
    }

    private static void becomes() {
        PiecesThatFit x = Check.object("A=", "abc");
        Check.equal("what it was", x.becomes(3, 7), 2);
        Check.equal("abh", Check.lineOf(x), "abh");
        Check.equal("it is so", x.becomes(3, 7), -2);
        Check.equal("no place", x.becomes(0, 1), -1);
        Check.equal("no place", x.becomes(4, 1), -1);
        Check.equal("no sign", x.becomes(1, 8), -1);
        Check.equal("no sign", x.becomes(1, -1), -1);
        Check.equal("one more can be undone", x.count(5), 3);
        Check.equal("undone", x.undo(), 2);
        Check.equal("abc", Check.lineOf(x), "abc");
    }

    private static void comes() {
        PiecesThatFit x = Check.object("A=", "ab");
        Check.equal("to the begin", x.comes(1, 7), 3);
        Check.equal("to the end", x.comes(4, 6), 4);
        Check.equal("between", x.comes(2, 5), 5);
        Check.equal("hfabg", Check.lineOf(x), "hfabg");
        Check.equal("no place", x.comes(0, 1), -1);
        Check.equal("no place", x.comes(7, 1), -1);
        Check.equal("no sign", x.comes(1, 8), -1);
        Check.equal("no sign", x.comes(1, -1), -1);
        Check.line(x, "aaaaaaaaaaaaaa");
        Check.equal("fourteen", x.comes(1, 0), -3);
        Check.equal("fourteen", x.comes(15, 0), -3);
        Check.equal("NONE first", x.comes(16, 0), -1);
        Check.equal("NONE first", x.comes(1, 8), -1);
        Check.equal("only those that were done", x.count(5), 6);
    }

    private static void goes() {
        PiecesThatFit x = Check.object("A=", "abc");
        Check.equal("no place", x.goes(0), -1);
        Check.equal("no place", x.goes(4), -1);
        Check.equal("two", x.goes(2), 2);
        Check.equal("ac", Check.lineOf(x), "ac");
        Check.equal("one", x.goes(2), 1);
        Check.equal("none", x.goes(1), 0);
        Check.equal("no more", x.goes(1), -1);
        Check.equal("three were done", x.count(5), 5);
    }

    private static void day() {
        PiecesThatFit x = Check.object("A=aAb|", "ab");
        Check.tells("all is done", x, Check.day(x, "i02ai03br01cd01"), 4, "0 1");
        Check.equal("aab, aabb, cabb, abb", Check.lineOf(x), "abb");
        Check.equal("as one", x.count(5), 3);
        Check.equal("the text is read", x.count(7), 0);
        Check.equal("undone at once", x.undo(), 2);
        Check.equal("ab", Check.lineOf(x), "ab");
        Check.tells("an empty day", x, Check.day(x, ""), 0, "0 0");
        Check.equal("nothing was done", x.count(5), 2);
    }

    private static void dayThatStops() {
        PiecesThatFit x = Check.object("A=aAb|", "ab");
        Check.tells("becomes what it is", x, Check.day(x, "r01br02bd01"), 1, "1 1");
        Check.equal("bb: the second change can't be", Check.lineOf(x), "bb");
        Check.tells("no place 3", x, Check.day(x, "d03d01"), 0, "1 1");
        Check.equal("nothing done, nothing to undo", x.count(5), 3);
        Check.tells("place 00", x, Check.day(x, "i00a"), 0, "1 1");
        Check.tells("place 99", x, Check.day(x, "d99"), 0, "1 1");
        Check.line(x, "aaaaaaaaaaaaaa");
        Check.tells("fourteen are there", x, Check.day(x, "d14i14bi15b"), 2, "1 1");
        Check.equal("one more", Check.lineOf(x), "aaaaaaaaaaaaab");
    }

    private static void dayRefused() {
        PiecesThatFit x = Check.object("A=aAb|", "ab");
        x.longest();
        String[] texts = {"x", "r", "i0", "d1", "r01", "r01i", "d01x", "d0a", "ra", "i01ad", "d01d", "d01d01d1", "R01a",
            "d01 ", "i01aa", "r1a"};
        int[] places = {0, 1, 2, 2, 3, 3, 3, 2, 1, 5, 4, 8, 0,
            3, 4, 2};
        for (int k = 0; k < texts.length; k++) {
            Check.tells("day \"" + texts[k] + "\"", x, Check.day(x, texts[k]), -1 - places[k], "0 4");
            Check.equal("the text is read", x.count(7), 0);
        }
        Check.equal("nothing is done", Check.lineOf(x), "ab");
        Check.equal("nothing is done", x.count(5), 2);
    }

    private static void undo() {
        PiecesThatFit x = new PiecesThatFit();
        Check.equal("none", x.undo(), -1);
        Check.grammar(x, "A=a|b");
        Check.line(x, "ab");
        Check.brackets(x, "ab");
        x.becomes(1, 2);
        x.comes(1, 3);
        x.goes(3);
        Check.day(x, "i01hr01g");
        Check.equal("gdc", Check.lineOf(x), "gdc");
        String[] lines = {"dc", "dcb", "cb", "ab", "ab", "", ""};
        int[] pairs = {1, 1, 1, 1, 0, 0, 0};
        int[] alternatives = {2, 2, 2, 2, 2, 2, 1};
        for (int k = 0; k < 7; k++) {
            Check.equal("left", x.undo(), 6 - k);
            Check.equal("the line after " + (k + 1), Check.lineOf(x), lines[k]);
            Check.equal("the pairs after " + (k + 1), x.count(4), pairs[k]);
            Check.equal("the grammar after " + (k + 1), x.count(1), alternatives[k]);
        }
        Check.equal("none", x.undo(), -1);
    }

    private static void undoOfTen() {
        PiecesThatFit x = new PiecesThatFit();
        for (int k = 1; k <= 13; k++) {
            x.comes(1, 0);
            Check.equal("ten at most", x.count(5), Math.min(k, 10));
        }
        for (int left = 9; left >= 0; left--) {
            Check.equal("left", x.undo(), left);
        }
        Check.equal("none", x.undo(), -1);
        Check.equal("three stay", x.count(0), 3);
        Check.equal("a new one", x.goes(1), 2);
        Check.equal("is undone", x.undo(), 0);
        Check.equal("three again", x.count(0), 3);
    }

    private static void undoOfAll() {
        PiecesThatFit x = Check.object("A=a", "a");
        Check.line(x, "a");
        Check.equal("a line like the old one counts", x.count(5), 3);
        x.keep(0);
        Check.equal("keep() is no change", x.count(5), 3);
        Check.isFalse("refused", x.again(1));
        Check.equal("a refused again() forgets nothing", x.count(5), 3);
        Check.isTrue("again", x.again(0));
        Check.equal("again() forgets them", x.undo(), -1);
        x.years(1, 5);
        x.without(1);
        x.blames();
        Check.equal("questions can't be undone", x.count(5), 0);
    }

    private static void years() {
        // each sign that is no a is a piece of its own, and must become one or go
        PiecesThatFit x = Check.object("A=aA|", "aaaaaaaaaaaaaa");
        Check.tells("seed 1", x, x.years(1, 20), 7, "7 14 16");
        Check.tells("seed -1", x, x.years(-1, 20), 7, "7 14 16");
        Check.tells("seed 12345", x, x.years(12345, 20), 4, "4 11 17");
        Check.tells("seed 2, 5 times", x, x.years(2, 5), 2, "2 14 2");
        Check.tells("no room", x, x.years(3, 1), 0, "0 14 0");
        Check.equal("it is forgotten", Check.lineOf(x), "aaaaaaaaaaaaaa");
        Check.line(x, "");
        Check.tells("of an empty line", x, x.years(1, 20), 2, "2 2 2");
        Check.tells("once", x, x.years(1, 1), 0, "0 0 0");
        Check.line(x, "aaaaaaa");
        Check.tells("seed 7", x, x.years(7, 20), 3, "3 8 7");
        Check.tells("another n", x, x.years(7, 0), -1, "3 8 7");
        Check.tells("another n", x, x.years(7, 21), -1, "3 8 7");
        Check.tells("another n", x, x.years(7, Integer.MIN_VALUE), -1, "3 8 7");
        Check.equal("seven still", x.count(0), 7);
    }
}
