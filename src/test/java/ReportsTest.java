/** Promises 17 to 27. */
public final class ReportsTest {
    public static void main(String[] args) {
        report();
        backwards();
        led();
        ledByOthers();
        least();
        mate();
        needed();
        neededOfLongSentences();
        without();
        blames();
        longest();
        weakest();
        wide();
        Check.finish();
    }

    private static void report() {
        PiecesThatFit x = Check.object("A=aAb|", "abab");
        Check.tells("abab", x, x.report(), 1, "2 4");
        Check.line(x, "aabb");
        Check.tells("a sentence", x, x.report(), 0, "");
        Check.line(x, "ccc");
        Check.tells("ccc", x, x.report(), 3, "1 2 2 3 3 4");
        Check.line(x, "baba");
        // ^b; from place 2 on ab is well, aba is not: ba is (3, 5); $ alone is well
        Check.tells("baba", x, x.report(), 2, "0 2 3 5");
        Check.line(x, "");
        Check.grammar(x, "A=a");
        Check.tells("^$", x, x.report(), 1, "0 2");
        Check.line(x, "bbbbbbbbbbbbbb");
        Check.equal("fourteen", x.report(), 14);
        Check.equal("numbers", x.count(6), 28);
        Check.equal("the last one's end", x.row(27), 15);
    }

    private static void backwards() {
        PiecesThatFit x = Check.object("A=aAb|", "baba");
        // a$ is (4, 6); from place 4 back a b is well, b a b is not: ba is (1, 3)
        Check.tells("baba", x, x.backwards(), 2, "1 3 4 6");
        Check.line(x, "aabb");
        Check.tells("a sentence", x, x.backwards(), 0, "");
        Check.line(x, "ccc");
        Check.tells("ccc", x, x.backwards(), 3, "1 2 2 3 3 4");
        // sentences: ab, cd. ^ab$ and ^cd$ apart
        PiecesThatFit y = Check.object("A=ab|cd", "acd");
        Check.tells("acd from the left", y, y.report(), 1, "1 3");
        Check.tells("acd from the right", y, y.backwards(), 1, "1 3");
        Check.line(y, "abcd");
        Check.tells("abcd from the left", y, y.report(), 1, "2 4");
        PiecesThatFit z = Check.object("A=aba", "bab");
        // ^b is (0, 2); a b is well, b $ is not: (3, 5)
        Check.tells("bab from the left", z, z.report(), 2, "0 2 3 5");
        Check.tells("bab from the right", z, z.backwards(), 2, "0 2 3 5");
        // the left end counts, too
        PiecesThatFit w = Check.object("A=aab|b", "ab");
        // ^ab: (0, 3) does not fit; (1, 3) fits, so (0, 3) is told
        Check.tells("ab from the left", w, w.report(), 1, "0 3");
        Check.tells("ab from the right", w, w.backwards(), 1, "0 3");
        // both ways tell other pieces: sentences ab, bc
        PiecesThatFit v = Check.object("A=ab|bc|ca", "abca");
        Check.tells("abca from the left", v, v.report(), 1, "1 4");
        Check.tells("abca from the right", v, v.backwards(), 1, "2 5");
    }

    private static void led() {
        PiecesThatFit x = Check.object("A=cAd|e", "ceed");
        Check.tells("without brackets", x, x.led(), 1, "2 4");
        Check.brackets(x, "cd");
        Check.tells("with brackets", x, x.led(), 1, "2 4");
        Check.line(x, "caaad");
        Check.tells("three wrong ones", x, x.report(), 3, "2 3 3 4 4 5");
        Check.tells("led past the bracket", x, x.led(), 1, "2 3");
        Check.line(x, "ccaadad");
        // the greatest opening place is asked: (3, 4) leads behind place 5, then a at place 6
        Check.tells("the inner pair", x, x.led(), 2, "3 4 6 7");
        Check.line(x, "cada");
        Check.tells("behind the closing one", x, x.led(), 2, "2 3 4 5");
    }

    private static void ledByOthers() {
        PiecesThatFit x = Check.object("A=cAd|e", "acd");
        Check.brackets(x, "cd");
        // the piece ends ahead of the opening one: it does not lead
        Check.tells("an opening one at j", x, x.led(), 2, "1 2 2 4");
        Check.line(x, "cda");
        // (1, 3) is told: c d; its closing place 2 is less than 3
        Check.tells("a closing one ahead of j", x, x.led(), 2, "1 3 3 4");
        Check.line(x, "cad");
        Check.tells("the closing one at j", x, x.led(), 1, "2 3");
    }

    private static void least() {
        PiecesThatFit x = Check.object("A=aAb|", "baba");
        Check.tells("^b, ba, ba, a$", x, x.least(), 4, "0 2 1 3 3 5 4 6");
        Check.line(x, "aaba");
        Check.tells("ba, a$", x, x.least(), 2, "3 5 4 6");
        Check.line(x, "aab");
        Check.tells("aab$ alone: ^aab and ab$ fit", x, x.least(), 1, "1 5");
        Check.line(x, "acb");
        Check.tells("c alone", x, x.least(), 1, "2 3");
        Check.line(x, "ab");
        Check.tells("none", x, x.least(), 0, "");
        // sentences: ab, bc: overlapping ones are told, too
        PiecesThatFit y = Check.object("A=ab|bc", "abc");
        Check.tells("^abc: abc, and ^ab, bc$ fit", y, y.least(), 1, "1 4");
    }

    private static void mate() {
        PiecesThatFit x = Check.object("A=", "acbdeab");
        Check.equal("two pairs", Check.brackets(x, "abcd"), 2);
        // a waits, c waits, b takes a (c waits no more), d has none, e is no bracket, a and b
        Check.tells("a", x, x.mate(1), 3, "0");
        Check.tells("b", x, x.mate(3), 1, "1");
        Check.tells("c waits no more", x, x.mate(2), -2, "1");
        Check.tells("d", x, x.mate(4), -2, "1");
        Check.tells("e", x, x.mate(5), -2, "1");
        Check.tells("a", x, x.mate(6), 7, "0");
        Check.tells("b", x, x.mate(7), 6, "1");
        Check.tells("no place", x, x.mate(0), -1, "1");
        Check.tells("no place", x, x.mate(8), -1, "1");
        Check.line(x, "aab");
        Check.equal("the latest one", x.mate(3), 2);
        Check.equal("this waits", x.mate(1), -2);
        Check.brackets(x, "");
        Check.equal("no brackets", x.mate(2), -2);
    }

    private static void needed() {
        PiecesThatFit x = Check.object("A=aAb|", "aab");
        Check.tells("aab", x, x.needed(), 1, "1");
        Check.line(x, "aabb");
        Check.tells("aabb", x, x.needed(), 0, "0");
        Check.line(x, "ba");
        Check.tells("ba", x, x.needed(), 2, "2");
        Check.line(x, "cccc");
        Check.tells("cccc", x, x.needed(), 4, "4");
        Check.line(x, "abababab");
        // the second sign becomes a, those at 5 and 7 go: aaabbb
        Check.equal("abababab", x.needed(), 3);
        Check.grammar(x, "A=aaa");
        Check.line(x, "babab");
        Check.equal("two go, one becomes", x.needed(), 3);
        Check.grammar(x, "A=abcd");
        Check.line(x, "bcda");
        Check.equal("one comes, one goes", x.needed(), 2);
    }

    private static void neededOfLongSentences() {
        PiecesThatFit x = Check.object("A=BBBB;B=CCCC;C=DDDD;D=EEEE;E=FFFF;F=aaaa", "");
        Check.tells("all come", x, x.needed(), 4096, "1");
        Check.line(x, "aabaa");
        Check.equal("one becomes, others come", x.needed(), 4092);
    }

    private static void without() {
        PiecesThatFit x = Check.object("A=aAb|", "aabab");
        Check.tells("the third a goes", x, x.without(4), 0, "1");
        Check.tells("the first b goes", x, x.without(3), 1, "0");
        Check.line(x, "ab");
        Check.tells("worse", x, x.without(1), 1, "-1");
        Check.tells("no place", x, x.without(0), -1, "-1");
        Check.tells("no place", x, x.without(3), -1, "-1");
        Check.equal("the line is as it was", Check.lineOf(x), "ab");
        Check.equal("nothing to undo of it", x.count(5), 3);
    }

    private static void blames() {
        PiecesThatFit x = Check.object("A=aAb|", "aabab");
        Check.tells("the third a", x, x.blames(), 4, "0");
        Check.line(x, "aabb");
        Check.tells("the first of equal ones", x, x.blames(), 1, "1");
        Check.line(x, "");
        Check.tells("empty", x, x.blames(), -2, "1");
    }

    private static void longest() {
        PiecesThatFit x = Check.object("A=aAb|", "abab");
        Check.tells("^ab, ab$", x, x.longest(), 3, "0 3");
        Check.line(x, "babb");
        Check.tells("abb$", x, x.longest(), 4, "2 6");
        Check.line(x, "ab");
        Check.tells("all", x, x.longest(), 4, "0 4");
        Check.grammar(x, "A=a");
        Check.line(x, "");
        Check.tells("^ alone", x, x.longest(), 1, "0 1");
    }

    private static void weakest() {
        PiecesThatFit x = Check.object("A=aAb|", "abab");
        Check.tells("all alike", x, x.weakest(), 0, "0 3");
        Check.line(x, "acb");
        Check.tells("c has none", x, x.weakest(), -2, "0 3");
        Check.grammar(x, "A=abc|c");
        Check.line(x, "abcb");
        // ^abc has 0 .. 3; b at 4: (4, 5) alone; $ at 5: (5, 6) alone
        Check.tells("the second b", x, x.weakest(), 4, "4 5");
        Check.line(x, "bb");
        // ^ (0, 1), b (1, 2): alone all
        Check.tells("the first of them", x, x.weakest(), 0, "0 1");
    }

    private static void wide() {
        PiecesThatFit x = Check.object("A=aAb|", "abab");
        Check.tells("of one", x, x.wide(1), 6, "");
        Check.tells("of two", x, x.wide(2), 4, "2");
        Check.tells("of three", x, x.wide(3), 2, "1");
        Check.tells("of four", x, x.wide(4), 0, "0");
        Check.tells("of six", x, x.wide(6), 0, "0");
        Check.tells("another", x, x.wide(7), -1, "0");
        Check.tells("another", x, x.wide(0), -1, "0");
        Check.tells("another", x, x.wide(Integer.MIN_VALUE), -1, "0");
        Check.tells("all do", x, x.wide(1), 6, "");
    }
}
