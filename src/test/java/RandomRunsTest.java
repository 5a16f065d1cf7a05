import java.util.NoSuchElementException;
import java.util.Random;

/** Runs of calls drawn by seeds, each call asked of the class and of the model. */
public final class RandomRunsTest {
    /** Answers for a call that threw NoSuchElementException. */
    private static final long THREW = Long.MIN_VALUE;

    private static int wrong = 0;
    private static long calls = 0;

    private final Random random;
    private final PiecesThatFit x = new PiecesThatFit();
    private final Model model = new Model();
    private final String signs;
    private final StringBuilder log = new StringBuilder();
    private int length;

    private RandomRunsTest(long seed) {
        random = new Random(seed);
        signs = "abcdefgh".substring(0, 1 + random.nextInt(random.nextInt(4) == 0 ? 8 : 4));
    }

    public static void main(String[] args) {
        int runs = args.length > 0 ? Integer.parseInt(args[0]) : 400;
        long first = args.length > 1 ? Long.parseLong(args[1]) : 1;
        for (long seed = first; seed < first + runs && wrong < 5; seed++) {
            RandomRunsTest run = new RandomRunsTest(seed);
            for (int k = 0; k < 120 && wrong < 5; k++) {
                if (!run.step()) {
                    System.out.println("seed " + seed + ": " + run.log);
                    break;
                }
            }
        }
        System.out.println(calls + " calls drawn, " + wrong + " answers unlike the model's");
        if (wrong != 0) {
            System.exit(1);
        }
    }

    private interface Call {
        long ask();
    }

    private boolean same(String name, Call mine, Call models) {
        long got;
        try {
            got = mine.ask();
        } catch (NoSuchElementException e) {
            got = THREW;
        }
        long want;
        try {
            want = models.ask();
        } catch (Model.Throws e) {
            want = THREW;
        }
        calls++;
        log.append(name).append(" -> ").append(got).append("; ");
        if (got != want) {
            wrong++;
            System.out.println(name + " answered " + got + ", the model says " + want);
        }
        return got == want;
    }

    private int below(int n) {
        return random.nextInt(n);
    }

    private boolean once(int n) {
        return below(n) == 0;
    }

    private int place() {
        return once(60) ? extreme() : below(length + 5) - 1;
    }

    private int extreme() {
        int[] extremes = {Integer.MIN_VALUE, Integer.MAX_VALUE, Integer.MIN_VALUE + 1, Integer.MAX_VALUE - 1, 1 << 16};
        return once(3) ? random.nextInt() : extremes[below(extremes.length)];
    }

    private boolean type(String text) {
        boolean good = same("end(0)", () -> x.end(0) ? 1 : 0, () -> model.end(0));
        log.append('"').append(text).append("\" ");
        for (int p = 0; p < text.length(); p += 4) {
            int v = 0;
            for (int k = 0; k < 4; k++) {
                v = v << 8 | (p + k < text.length() ? text.charAt(p + k) & 255 : 0);
            }
            int four = v;
            good &= same("sign(" + v + ")", () -> x.sign(four), () -> model.sign(four));
        }
        int n = text.length();
        return good & same("end(" + n + ")", () -> x.end(n) ? 1 : 0, () -> model.end(n));
    }

    private char someSign() {
        return once(12) ? (char) ('a' + below(8)) : signs.charAt(below(signs.length()));
    }

    private String someLine() {
        StringBuilder b = new StringBuilder();
        int n = once(3) ? below(15) : below(7);
        for (int k = 0; k < n; k++) {
            b.append(someSign());
        }
        return b.toString();
    }

    private String someGrammar() {
        String capitals = "ABCDEF".substring(0, 1 + below(once(3) ? 6 : 3));
        String order = once(4) ? new StringBuilder(capitals).reverse().toString() : capitals;
        StringBuilder b = new StringBuilder();
        for (char c : order.toCharArray()) {
            b.append(b.length() > 0 ? ";" : "").append(c).append('=');
            int alternatives = 1 + below(once(5) ? 5 : 3);
            for (int k = 0; k < alternatives; k++) {
                b.append(k > 0 ? "|" : "");
                int symbols = below(5);
                for (int i = 0; i < symbols; i++) {
                    b.append(below(5) < 2 ? capitals.charAt(below(capitals.length())) : someSign());
                }
            }
        }
        return b.toString();
    }

    private String someDay() {
        StringBuilder b = new StringBuilder();
        int changes = below(6);
        for (int k = 0; k < changes; k++) {
            char kind = "rid".charAt(below(3));
            b.append(kind).append(String.format("%02d", once(20) ? below(100) : 1 + below(length + 2)));
            if (kind != 'd') {
                b.append(someSign());
            }
        }
        return b.toString();
    }

    private String spoiled(String text) {
        if (!once(6)) {
            return text;
        }
        String odd = "aAhiGF=|;;|=0r d9" + (char) 200;
        char c = odd.charAt(below(odd.length()));
        int p = below(text.length() + 1);
        if (once(3)) {
            return text.substring(0, p);
        }
        return text.substring(0, p) + c + text.substring(once(2) ? p : Math.min(p + 1, text.length()));
    }

    private static String fit(String text) {
        return text.length() > 80 ? text.substring(0, 80) : text;
    }

    private boolean step() {
        length = x.count(0);
        int i = place();
        int j = once(6) || i > 20 ? place() : Math.min(length + 2, i + below(once(2) ? 5 : 17));
        int p = place();
        int s = once(12) ? below(12) - 2 : once(40) ? extreme() : below(8);
        boolean good = asked(below(46), i, j, p, s);
        good &= same("count(6)", () -> x.count(6), () -> model.count(6));
        int numbers = x.count(6);
        for (int k = 0; k <= numbers && good; k++) {
            int n = k;
            good = same("row(" + k + ")", () -> x.row(n), () -> model.row(n));
        }
        int what = below(11) - 1;
        return good && same("count(" + what + ")", () -> x.count(what), () -> model.count(what));
    }

    private boolean asked(int kind, int i, int j, int p, int s) {
        switch (kind) {
            case 0: case 1: case 2:
                return type(fit(spoiled(someGrammar()))) && same("grammar()", x::grammar, model::grammar);
            case 3: case 4:
                return type(fit(spoiled(someLine()))) && same("line()", x::line, model::line);
            case 5: case 6:
                return type(fit(spoiled(somePairs()))) && same("brackets()", x::brackets, model::brackets);
            case 7: case 8:
                return type(fit(spoiled(someDay()))) && same("day()", x::day, model::day);
            case 9: {
                int k = once(20) ? extreme() : below(14) - 1;
                int m = once(20) ? extreme() : below(6) - 1;
                return same("symbol(" + k + ", " + m + ")", () -> x.symbol(k, m), () -> model.symbol(k, m));
            }
            case 10:
                return same("at(" + p + ")", () -> x.at(p), () -> model.at(p));
            case 11: {
                int sort = below(6) - 1;
                int n = once(20) ? extreme() : below(18) - 2;
                int f = once(3) ? random.nextInt() : below(20) - 10;
                int step = once(3) ? random.nextInt() : below(20) - 10;
                return same("sheet(" + sort + ", " + n + ", " + f + ", " + step + ")",
                        () -> x.sheet(sort, n, f, step), () -> model.sheet(sort, n, f, step));
            }
            case 12: case 13:
                return same("fits(" + i + ", " + j + ")", () -> x.fits(i, j), () -> model.fits(i, j));
            case 14:
                return same("onwards(" + i + ")", () -> x.onwards(i), () -> model.onwards(i));
            case 15:
                return same("back(" + j + ")", () -> x.back(j), () -> model.back(j));
            case 16:
                return same("sentence()", x::sentence, model::sentence);
            case 17: case 18:
                return same("next(" + i + ", " + j + ")", () -> x.next(i, j), () -> model.next(i, j));
            case 19: case 20:
                return same("ahead(" + i + ", " + j + ")", () -> x.ahead(i, j), () -> model.ahead(i, j));
            case 21: case 22: case 23: {
                int c = once(5) ? below(9) - 1 : once(60) ? extreme() : below(3);
                int sort = once(8) ? below(7) - 1 : once(60) ? extreme() : below(4);
                return same("yields(" + c + ", " + sort + ", " + i + ", " + j + ")",
                        () -> x.yields(c, sort, i, j), () -> model.yields(c, sort, i, j));
            }
            default:
                return askedMore(kind, i, p, s);
        }
    }

    private String somePairs() {
        StringBuilder b = new StringBuilder();
        String rest = once(3) ? "hgfedcba" : "abcdefgh";
        int n = 2 * below(4);
        for (int k = 0; k < n; k++) {
            b.append(rest.charAt(k));
        }
        return b.toString();
    }

    private boolean askedMore(int kind, int i, int p, int s) {
        switch (kind) {
            case 24:
                return same("report()", x::report, model::report);
            case 25:
                return same("backwards()", x::backwards, model::backwards);
            case 26: case 27:
                return same("led()", x::led, model::led);
            case 28:
                return same("least()", x::least, model::least);
            case 29:
                return same("mate(" + p + ")", () -> x.mate(p), () -> model.mate(p));
            case 30:
                return same("needed()", x::needed, model::needed);
            case 31:
                return same("without(" + p + ")", () -> x.without(p), () -> model.without(p));
            case 32:
                return same("blames()", x::blames, model::blames);
            case 33:
                return same("longest()", x::longest, model::longest);
            case 34:
                return same("weakest()", x::weakest, model::weakest);
            case 35:
                return same("wide(" + p + ")", () -> x.wide(p), () -> model.wide(p));
            case 36: {
                int c = once(5) ? below(9) - 1 : once(40) ? extreme() : below(4);
                int what = once(40) ? extreme() : below(10) - 1;
                return same("capital(" + c + ", " + what + ")",
                        () -> x.capital(c, what), () -> model.capital(c, what));
            }
            case 37: {
                int n = once(20) ? extreme() : below(8) - 1;
                return same("sentences(" + n + ")", () -> x.sentences(n), () -> model.sentences(n));
            }
            case 38: {
                int k = once(8) ? below(5) - 1 : once(40) ? extreme() : below(2);
                int n = once(8) ? below(8) - 1 : once(40) ? extreme() : below(6);
                return same("apart(" + k + ", " + n + ")", () -> x.apart(k, n), () -> model.apart(k, n));
            }
            case 39:
                return same("becomes(" + p + ", " + s + ")", () -> x.becomes(p, s), () -> model.becomes(p, s));
            case 40:
                return same("comes(" + p + ", " + s + ")", () -> x.comes(p, s), () -> model.comes(p, s));
            case 41:
                return same("goes(" + p + ")", () -> x.goes(p), () -> model.goes(p));
            case 42:
                return same("undo()", x::undo, model::undo);
            case 43: {
                int seed = random.nextInt();
                int n = once(20) ? extreme() : below(24) - 1;
                return same("years(" + seed + ", " + n + ")", () -> x.years(seed, n), () -> model.years(seed, n));
            }
            case 44: {
                int k = once(20) ? extreme() : below(4) - 1;
                return same("keep(" + k + ")", () -> x.keep(k) ? 1 : 0, () -> model.keep(k));
            }
            default: {
                int k = once(20) ? extreme() : below(4) - 1;
                return same("again(" + k + ")", () -> x.again(k) ? 1 : 0, () -> model.again(k));
            }
        }
    }
}
