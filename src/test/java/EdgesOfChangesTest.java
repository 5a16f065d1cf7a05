/** Each sentence of promises 31 to 36 that names an edge has a test of its own here. */
public final class EdgesOfChangesTest {
    private static final int MIN = Check.MIN;
    private static final int MAX = Check.MAX;
    private static final String FULL_LINE = "abcdefghabcdef";

    public static void main(String[] args) {
        Check.runAll(EdgesOfChangesTest.class);
    }

    static void promise31Others() {
        PiecesThatFit x = Check.object("A=", "ab");
        int[] places = {0, 3, -1, MIN, MAX};
        for (int p : places) {
            Check.equal("becomes(" + p + ", 2)", x.becomes(p, 2), -1);
        }
        int[] signs = {-1, 8, MIN, MAX};
        for (int s : signs) {
            Check.equal("becomes(1, " + s + ")", x.becomes(1, s), -1);
        }
        Check.equal("the first place, the last sign", x.becomes(1, 7), 0);
        Check.equal("the last place, the first sign", x.becomes(2, 0), 1);
        Check.equal("h, a", Check.lineOf(x), "ha");
    }

    static void promise31ItIsSo() {
        PiecesThatFit x = Check.object("A=", "ah");
        Check.equal("a", x.becomes(1, 0), -2);
        Check.equal("h", x.becomes(2, 7), -2);
        Check.equal("nothing more to undo", x.count(5), 2);
        Check.equal("a, h", Check.lineOf(x), "ah");
    }

    static void promise31EmptyLine() {
        PiecesThatFit x = new PiecesThatFit();
        Check.equal("^", x.becomes(0, 0), -1);
        Check.equal("$", x.becomes(1, 0), -1);
    }

    static void promise31FullLine() {
        PiecesThatFit x = Check.object("A=", FULL_LINE);
        Check.equal("the fourteenth", x.becomes(14, 7), 5);
        Check.equal("$", x.becomes(15, 7), -1);
        Check.equal("the last is another", Check.lineOf(x), "abcdefghabcdeh");
    }

    static void promise31RefusedChangesNothing() {
        Untouched.by("no place", -1, x -> x.becomes(8, 0));
        Untouched.by("no sign", -1, x -> x.becomes(1, 8));
        Untouched.by("it is so", -2, x -> x.becomes(1, 0));
    }

    static void promise32Others() {
        PiecesThatFit x = Check.object("A=", "bc");
        int[] places = {0, 4, -1, MIN, MAX};
        for (int p : places) {
            Check.equal("comes(" + p + ", 2)", x.comes(p, 2), -1);
        }
        int[] signs = {-1, 8, MIN, MAX};
        for (int s : signs) {
            Check.equal("comes(1, " + s + ")", x.comes(1, s), -1);
        }
        Check.equal("ahead of all, the first sign", x.comes(1, 0), 3);
        Check.equal("behind all, the last sign", x.comes(4, 7), 4);
        Check.equal("all of them", Check.lineOf(x), "abch");
    }

    static void promise32ThereAre14() {
        PiecesThatFit x = Check.object("A=", FULL_LINE.substring(1));
        Check.equal("a fourteenth", x.comes(1, 0), 14);
        Check.equal("they stand", Check.lineOf(x), FULL_LINE);
        Check.equal("a fifteenth ahead", x.comes(1, 0), -3);
        Check.equal("a fifteenth behind", x.comes(15, 7), -3);
        Check.equal("they stand still", Check.lineOf(x), FULL_LINE);
        Check.equal("one more can be undone", x.count(5), 3);
    }

    static void promise32NoneAheadOf14() {
        PiecesThatFit x = Check.object("A=", FULL_LINE);
        Check.equal("no place", x.comes(0, 0), -1);
        Check.equal("no place", x.comes(16, 0), -1);
        Check.equal("no sign", x.comes(1, 8), -1);
        Check.equal("no sign", x.comes(15, -1), -1);
        Check.equal("others are 14", x.comes(15, 0), -3);
    }

    static void promise32EmptyLine() {
        PiecesThatFit x = new PiecesThatFit();
        Check.equal("^", x.comes(0, 0), -1);
        Check.equal("behind $", x.comes(2, 0), -1);
        Check.equal("between", x.comes(1, 7), 1);
        Check.equal("h", Check.lineOf(x), "h");
    }

    static void promise32RefusedChangesNothing() {
        Untouched.by("no place", -1, x -> x.comes(9, 0));
        Untouched.by("no sign", -1, x -> x.comes(1, -1));
        Untouched.by("there are 14", () -> {
            PiecesThatFit x = Untouched.rich();
            x.sheet(0, 14, 0, 1);
            return x;
        }, -3, x -> x.comes(1, 0));
    }

    static void promise33OutOfPlaces() {
        PiecesThatFit x = Check.object("A=", "abcd");
        int[] places = {0, 5, -1, MIN, MAX};
        for (int p : places) {
            Check.equal("goes(" + p + ")", x.goes(p), -1);
        }
        Check.equal("the first", x.goes(1), 3);
        Check.equal("the last", x.goes(3), 2);
        Check.equal("b, c", Check.lineOf(x), "bc");
    }

    static void promise33EmptyLine() {
        PiecesThatFit x = Check.object("A=", "a");
        Check.equal("the only one", x.goes(1), 0);
        Check.equal("no more", x.goes(1), -1);
        Check.equal("no more", x.goes(0), -1);
    }

    static void promise33FullLine() {
        PiecesThatFit x = Check.object("A=", FULL_LINE);
        Check.equal("$", x.goes(15), -1);
        Check.equal("the fourteenth", x.goes(14), 13);
        Check.equal("no more there", x.goes(14), -1);
        Check.equal("the first", x.goes(1), 12);
        Check.equal("twelve", Check.lineOf(x), "bcdefghabcde");
    }

    static void promise33RefusedChangesNothing() {
        Untouched.by("^", -1, x -> x.goes(0));
        Untouched.by("$", -1, x -> x.goes(8));
    }

    static void promise34EmptyText() {
        PiecesThatFit x = Check.object("A=a", "bb");
        Check.tells("nothing", x, Check.day(x, ""), 0, "0 2");
        Check.equal("nothing to undo of it", x.count(5), 2);
        Check.equal("the line stays", Check.lineOf(x), "bb");
    }

    static void promise34EndsTooEarly() {
        dayRefused("r", 1);
        dayRefused("r0", 2);
        dayRefused("r01", 3);
        dayRefused("i", 1);
        dayRefused("i0", 2);
        dayRefused("i01", 3);
        dayRefused("d", 1);
        dayRefused("d0", 2);
        dayRefused("d01r01ai01", 10);
        dayRefused("d01d", 4);
    }

    static void promise34FirstSignOfChange() {
        String others = "acehjqsRID0 \0\u00e4\u00f2";
        for (int k = 0; k < others.length(); k++) {
            dayRefused(others.charAt(k) + "01a", 0);
            dayRefused("d01" + others.charAt(k) + "01a", 3);
        }
        dayRefused("d01a", 3);
        dayRefused("i01ab", 4);
    }

    static void promise34TwoDigits() {
        String others = "/:ab \0\u00b0";
        for (int k = 0; k < others.length(); k++) {
            dayRefused("d" + others.charAt(k) + "1", 1);
            dayRefused("d0" + others.charAt(k), 2);
            dayRefused("i" + others.charAt(k) + "1a", 1);
            dayRefused("r0" + others.charAt(k) + "a", 2);
        }
        dayRefused("d1", 2);
        dayRefused("d001", 3);
        PiecesThatFit x = new PiecesThatFit();
        x.sheet(0, 14, 0, 1);
        Check.tells("place 09", x, Check.day(x, "d09"), 1, "0 13");
        Check.tells("place 10", x, Check.day(x, "d10"), 1, "0 12");
        Check.equal("a and c are gone", Check.lineOf(x), "abcdefghbdef");
    }

    static void promise34SignAToH() {
        String others = "`iA1 \0\u00e1";
        for (int k = 0; k < others.length(); k++) {
            dayRefused("r01" + others.charAt(k), 3);
            dayRefused("i01" + others.charAt(k), 3);
        }
        PiecesThatFit x = new PiecesThatFit();
        Check.tells("a and h come, then become the other", x, Check.day(x, "i01ai02hr01hr02a"), 4, "0 2");
        Check.equal("h, a", Check.lineOf(x), "ha");
    }

    static void promise34PlacesThatCantBe() {
        String[] days = {"d00", "d03", "d99", "r00a", "r03a", "r99a", "i00a", "i04a", "i99a"};
        for (String day : days) {
            PiecesThatFit x = Check.object("A=", "bb");
            Check.tells(day, x, Check.day(x, day), 0, "1 2");
            Check.equal("nothing to undo of it", x.count(5), 2);
            Check.equal("the line stays", Check.lineOf(x), "bb");
        }
        String[] done = {"d01", "d02", "r01a", "r02a", "i01a", "i03a"};
        for (String day : done) {
            PiecesThatFit x = Check.object("A=", "bb");
            Check.equal(day, Check.day(x, day), 1);
            Check.equal("one more to undo", x.count(5), 3);
        }
    }

    static void promise34TillOneCantBe() {
        PiecesThatFit x = Check.object("A=", "abc");
        Check.tells("the first: it is so", x, Check.day(x, "r01ad01"), 0, "1 3");
        Check.tells("the second", x, Check.day(x, "d01d03d01"), 1, "1 2");
        Check.equal("what comes behind is not done", Check.lineOf(x), "bc");
        Check.tells("the last", x, Check.day(x, "d02d01d01"), 2, "1 0");
        Check.equal("the line is empty", x.count(0), 0);
        Check.tells("none", x, Check.day(x, "i01a"), 1, "0 1");
    }

    static void promise34ThereAre14() {
        PiecesThatFit x = Check.object("A=", FULL_LINE);
        Check.tells("a fifteenth can't come", x, Check.day(x, "r01hi15ad01"), 1, "1 14");
        Check.tells("nor ahead", x, Check.day(x, "i01a"), 0, "1 14");
        Check.tells("behind one that went, it can", x, Check.day(x, "d14i14a"), 2, "0 14");
        Check.equal("the line", Check.lineOf(x), "hbcdefghabcdea");
    }

    static void promise34FullText() {
        PiecesThatFit x = Check.object("A=aA|", "");
        Check.tells("twenty come: fourteen do", x, Check.day(x, "i01a".repeat(20)), 14, "1 0");
        Check.equal("fourteen", x.count(0), 14);
        Check.tells("twenty become others", x, Check.day(x, "r14br14a".repeat(10)), 20, "0 0");
        Check.equal("as one", x.count(5), 4);
        Check.tells("78 signs: 26 go, fourteen do", x, Check.day(x, "d01".repeat(26)), 14, "1 0");
        Check.equal("its end, behind 80 signs", Check.day(x, "d01".repeat(26) + "d0"), -81);
        Check.equal("the last sign of 80", Check.day(x, "d01".repeat(26) + "dx"), -80);
    }

    static void promise34PiecesAreNotLed() {
        PiecesThatFit x = Check.object("A=cAd|e", "caad", "cd");
        Check.equal("led", x.led(), 1);
        Check.tells("three", x, Check.day(x, "i02a"), 1, "0 3");
    }

    static void promise34NothingIsDoneThen() {
        PiecesThatFit x = Check.object("A=", "abc");
        x.longest();
        Check.tells("the last sign is wrong", x, Check.day(x, "d01d01d0x"), -9, "0 1");
        Check.equal("nothing is done", Check.lineOf(x), "abc");
        Check.equal("nothing to undo of it", x.count(5), 2);
        Check.tells("signs are asked ahead of what can't be", x, Check.day(x, "d99x"), -4, "0 1");
    }

    static void promise34RefusedChangesNothing() {
        Untouched.butText("a sign that can't stand", -4, x -> Check.day(x, "d01x"));
        Untouched.butText("its end", -6, x -> Check.day(x, "d01d0"));
        Untouched.butText("an unknown change", -1, x -> Check.day(x, "x"));
    }

    static void promise35NoneLeft() {
        PiecesThatFit x = new PiecesThatFit();
        Check.equal("none at first", x.undo(), -1);
        Check.line(x, "a");
        Check.equal("none is left", x.undo(), 0);
        Check.equal("none", x.undo(), -1);
        Check.equal("none", x.undo(), -1);
        Check.equal("the line is empty", x.count(0), 0);
    }

    static void promise35TenAreKept() {
        for (int done = 9; done <= 12; done++) {
            PiecesThatFit x = new PiecesThatFit();
            for (int k = 1; k <= done; k++) {
                x.comes(1, k % 8);
                Check.equal("can be undone", x.count(5), Math.min(k, 10));
            }
            int most = Math.min(done, 10);
            for (int left = most - 1; left >= 0; left--) {
                Check.equal("left", x.undo(), left);
                Check.equal("signs", x.count(0), done - most + left);
            }
            Check.equal("none of " + done, x.undo(), -1);
            Check.equal("what is not kept stays done", x.count(0), done - most);
        }
    }

    static void promise35TheLatestOnes() {
        PiecesThatFit x = new PiecesThatFit();
        for (int k = 0; k < 35; k++) {
            x.sheet(0, 0, 0, 0);
            Check.line(x, "abcdefgh".substring(k % 8, k % 8 + 1));
        }
        // ahead of each line() the line was empty; behind the last undo it still is
        for (int left = 9; left >= 0; left--) {
            Check.equal("left", x.undo(), left);
            Check.equal("empty", x.count(0), 0);
        }
        for (int k = 0; k < 35; k++) {
            Check.line(x, "abcdefgh".substring(k % 8, k % 8 + 1));
        }
        for (int k = 33; k >= 24; k--) {
            x.undo();
            Check.equal("the line behind call " + k, x.at(1), k % 8);
        }
        Check.equal("none", x.undo(), -1);
    }

    static void promise35EachOfSeven() {
        PiecesThatFit x = new PiecesThatFit();
        Check.grammar(x, "B=ab");
        Check.line(x, "ab");
        Check.brackets(x, "ab");
        x.becomes(1, 7);
        x.comes(1, 6);
        x.goes(3);
        Check.day(x, "d01");
        Check.equal("seven", x.count(5), 7);
        String[] lines = {"gh", "ghb", "hb", "ab", "ab", "", ""};
        for (int k = 0; k < 7; k++) {
            Check.equal("left", x.undo(), 6 - k);
            Check.equal("the line", Check.lineOf(x), lines[k]);
            Check.equal("the brackets", x.count(4), k < 4 ? 1 : 0);
            Check.equal("START", x.count(3), k < 6 ? 1 : 0);
        }
    }

    static void promise35BracketsAsAheadOfIt() {
        PiecesThatFit x = Check.object("A=", "abcdefgh", "abcdef");
        Check.brackets(x, "gh");
        Check.equal("g, h", x.mate(7), 8);
        x.undo();
        int[] due = {2, 1, 4, 3, 6, 5, -2, -2};
        for (int p = 1; p <= 8; p++) {
            Check.equal("mate(" + p + ")", x.mate(p), due[p - 1]);
        }
    }

    static void promise35SuchAsWereDone() {
        PiecesThatFit x = Check.object("A=", "ab");
        Check.grammar(x, "A");
        Check.line(x, "i");
        Check.brackets(x, "a");
        x.becomes(1, 0);
        x.becomes(0, 0);
        x.comes(0, 0);
        x.goes(0);
        Check.day(x, "d");
        Check.day(x, "d09");
        Check.day(x, "");
        x.years(1, 20);
        x.without(1);
        x.sheet(0, 2, 0, 1);
        x.keep(0);
        x.again(1);
        Check.equal("grammar() and line() alone", x.count(5), 2);
    }

    static void promise35LikeTheOldOne() {
        PiecesThatFit x = new PiecesThatFit();
        Check.grammar(x, "A=");
        Check.line(x, "");
        Check.brackets(x, "");
        Check.equal("they were done", x.count(5), 3);
        Check.equal("two are left", x.undo(), 2);
    }

    static void promise35DayAsOne() {
        PiecesThatFit x = Check.object("A=", "ab");
        Check.equal("three of four", Check.day(x, "d01d01i01hd02"), 3);
        Check.equal("one more", x.count(5), 3);
        Check.equal("h", Check.lineOf(x), "h");
        Check.equal("undone as one", x.undo(), 2);
        Check.equal("a, b", Check.lineOf(x), "ab");
        Check.equal("one of two", Check.day(x, "d01d09"), 1);
        Check.equal("undone", x.undo(), 2);
        Check.equal("a, b", Check.lineOf(x), "ab");
    }

    static void promise35AgainForgets() {
        PiecesThatFit x = Check.object("A=", "ab");
        x.keep(0);
        Check.isFalse("refused", x.again(1));
        Check.isFalse("refused", x.again(2));
        Check.isFalse("refused", x.again(-1));
        Check.equal("nothing is forgotten", x.count(5), 2);
        Check.isTrue("again", x.again(0));
        Check.equal("forgotten", x.count(5), 0);
        Check.equal("none", x.undo(), -1);
        x.goes(1);
        Check.equal("the next one alone", x.count(5), 1);
        Check.equal("is undone", x.undo(), 0);
        Check.equal("a, b", Check.lineOf(x), "ab");
    }

    static void promise35UndoneAndDoneAnew() {
        PiecesThatFit x = new PiecesThatFit();
        for (int k = 0; k < 14; k++) {
            x.comes(1, k % 8);
        }
        for (int k = 0; k < 4; k++) {
            x.undo();
        }
        Check.equal("six are left", x.count(5), 6);
        for (int k = 0; k < 4; k++) {
            x.goes(1);
        }
        Check.equal("ten again", x.count(5), 10);
        x.goes(1);
        Check.equal("ten at most", x.count(5), 10);
        for (int left = 9; left >= 0; left--) {
            Check.equal("left", x.undo(), left);
        }
        Check.equal("the eleventh is not kept", x.count(0), 5);
    }

    static void promise35TextRowAndKeptStay() {
        PiecesThatFit x = Untouched.rich();
        String row = Check.rowOf(x);
        x.undo();
        Check.equal("THE TEXT stays", x.count(7), 3);
        Check.equal("the ROW stays", Check.rowOf(x), row);
        x.undo();
        x.undo();
        x.undo();
        Check.isTrue("what is kept stays", x.again(1));
        Check.equal("what is kept stays", Check.lineOf(x), "bcd");
    }

    static void promise35RefusedChangesNothing() {
        Untouched.by("none", () -> {
            PiecesThatFit x = Untouched.rich();
            x.again(1);
            x.sheet(0, 3, 5, 1);
            return x;
        }, -1, PiecesThatFit::undo);
    }

    static void promise36AnotherN() {
        PiecesThatFit x = Check.object("A=aA|", "aaa");
        x.longest();
        int[] others = {0, 21, -1, MIN, MAX};
        for (int n : others) {
            Check.tells("years(5, " + n + ")", x, x.years(5, n), -1, "0 5");
        }
        yearsAs(5, 1, "aaa");
        yearsAs(5, 20, "aaa");
    }

    static void promise36SeedsAtTheEnds() {
        int[] seeds = {MIN, MIN + 1, MAX, MAX - 1, -1, 0, 1, 65535, 65536, -65536};
        String[] lines = {"", "a", "aaaaaaa", "aaaaaaaaaaaaa", "aaaaaaaaaaaaaa"};
        for (int seed : seeds) {
            for (String line : lines) {
                yearsAs(seed, 1, line);
                yearsAs(seed, 7, line);
                yearsAs(seed, 20, line);
            }
        }
    }

    static void promise36RefusedIsNotDone() {
        PiecesThatFit x = Check.object("A=aA|", "aaaaaaa");
        int done = 0;
        for (int seed = 0; seed < 60; seed++) {
            x.years(seed, 1);
            done += (int) x.row(2);
            yearsAs(seed, 1, "");
            yearsAs(seed, 1, "aaaaaaa");
            yearsAs(seed, 1, "aaaaaaaaaaaaaa");
        }
        Check.isTrue("some are done, some are not", done > 0 && done < 60);
    }

    static void promise36ItIsForgotten() {
        Untouched.butRow("years", () -> {
            PiecesThatFit x = Untouched.rich();
            Check.grammar(x, "A=aA|");
            x.sheet(0, 7, 0, 0);
            Check.type(x, "hgf");
            return x;
        }, Long.parseLong(yearsBy(9, 20, "aaaaaaa").split(" ")[0]), x -> x.years(9, 20));
    }

    static void promise36PiecesAreNotLed() {
        PiecesThatFit x = Check.object("A=cAd|e", "caaaaaaaaaaaad", "cd");
        Check.equal("led", x.led(), 1);
        Check.tells("14 signs: nothing comes", x, x.years(3, 1), 12, "12 14 0");
    }

    static void promise36RefusedChangesNothing() {
        Untouched.by("none", -1, x -> x.years(1, 0));
        Untouched.by("too many", -1, x -> x.years(1, 21));
    }

    private static void dayRefused(String text, int place) {
        PiecesThatFit x = new PiecesThatFit();
        x.sheet(0, 3, 0, 0);
        Check.equal("the day " + text, Check.day(x, text), -1 - place);
        Check.equal("THE TEXT is empty", x.count(7), 0);
        Check.equal("nothing is done", Check.lineOf(x), "aaa");
        Check.equal("no ROW", x.count(6), 0);
    }

    /** Of lines of a, with the GRAMMAR A=aA|, by which each other sign is a piece and needs one change. */
    private static void yearsAs(int seed, int n, String line) {
        PiecesThatFit x = Check.object("A=aA|", line);
        String[] due = yearsBy(seed, n, line).split(" ", 2);
        Check.tells("years(" + seed + ", " + n + ") of " + line, x, x.years(seed, n), Long.parseLong(due[0]), due[1]);
    }

    private static String yearsBy(int seed, int n, String line) {
        long[] r = {seed & 0xffffffffL};
        StringBuilder b = new StringBuilder(line);
        int done = 0;
        for (int k = 0; k < n; k++) {
            long kind = draw(r, 3);
            int p = (int) draw(r, 14) + 1;
            char sign = kind == 2 ? 'a' : (char) ('a' + draw(r, 8));
            if (kind == 0 && p <= b.length() && b.charAt(p - 1) != sign) {
                b.setCharAt(p - 1, sign);
                done++;
            } else if (kind == 1 && p <= b.length() + 1 && b.length() < 14) {
                b.insert(p - 1, sign);
                done++;
            } else if (kind == 2 && p <= b.length()) {
                b.deleteCharAt(p - 1);
                done++;
            }
        }
        long others = b.chars().filter(c -> c != 'a').count();
        return others + " " + others + " " + b.length() + " " + done;
    }

    private static long draw(long[] r, int n) {
        r[0] = (r[0] * 1103515245L + 12345L) % 4294967296L;
        return r[0] / 65536 % n;
    }
}
