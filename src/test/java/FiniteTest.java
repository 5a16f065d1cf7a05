import java.util.ArrayList;
import java.util.List;
import java.util.Random;
import java.util.TreeSet;

/** Grammars with few sentences: these are written down, one by one, and the words of the document are asked of them. */
public final class FiniteTest {
    private static final Random RANDOM = new Random(20261118);

    public static void main(String[] args) {
        int used = 0;
        for (int k = 0; k < 3000; k++) {
            String grammar = someGrammar();
            TreeSet<String> sentences = yielded("A", grammar.split(";"));
            if (sentences.size() <= 60) {
                used++;
                String line = someLine(sentences);
                PiecesThatFit x = Check.object(grammar, line);
                askPieces(x, grammar + " " + line, sentences, line);
                askNeeded(x, grammar + " " + line, sentences, line);
                askCounts(x, grammar, sentences);
            }
        }
        Check.isTrue("enough grammars", used > 1000);
        Check.finish();
    }

    /** A capital's alternatives have later capitals alone, so that it ends. */
    private static String someGrammar() {
        int capitals = 1 + RANDOM.nextInt(3);
        StringBuilder b = new StringBuilder();
        for (int c = 0; c < capitals; c++) {
            b.append(c > 0 ? ";" : "").append((char) ('A' + c)).append('=');
            int alternatives = 1 + RANDOM.nextInt(3);
            for (int k = 0; k < alternatives; k++) {
                b.append(k > 0 ? "|" : "");
                int symbols = RANDOM.nextInt(5);
                for (int i = 0; i < symbols; i++) {
                    boolean deep = c + 1 < capitals && RANDOM.nextInt(3) == 0;
                    b.append((char) (deep ? 'A' + c + 1 + RANDOM.nextInt(capitals - c - 1) : 'a' + RANDOM.nextInt(3)));
                }
            }
        }
        return b.toString();
    }

    private static TreeSet<String> yielded(String symbols, String[] rules) {
        TreeSet<String> all = new TreeSet<>();
        if (symbols.isEmpty()) {
            all.add("");
            return all;
        }
        TreeSet<String> firsts = new TreeSet<>();
        char c = symbols.charAt(0);
        if (c >= 'a') {
            firsts.add("" + c);
        } else {
            for (String alternative : rules[c - 'A'].substring(2).split("\\|", -1)) {
                firsts.addAll(yielded(alternative, rules));
            }
        }
        for (String rest : yielded(symbols.substring(1), rules)) {
            for (String first : firsts) {
                all.add(first + rest);
                if (all.size() > 60) {
                    return all;
                }
            }
        }
        return all;
    }

    private static String someLine(TreeSet<String> sentences) {
        List<String> list = new ArrayList<>(sentences);
        StringBuilder b = new StringBuilder(list.get(RANDOM.nextInt(list.size())));
        for (int k = RANDOM.nextInt(4); k > 0; k--) {
            b.insert(RANDOM.nextInt(b.length() + 1), (char) ('a' + RANDOM.nextInt(3)));
            b.deleteCharAt(RANDOM.nextInt(b.length()));
        }
        return b.length() > 14 ? b.substring(b.length() - 14) : b.toString();
    }

    private static boolean stands(TreeSet<String> sentences, String piece) {
        for (String sentence : sentences) {
            if (("^" + sentence + "$").contains(piece)) {
                return true;
            }
        }
        return false;
    }

    private static void askPieces(PiecesThatFit x, String what, TreeSet<String> sentences, String line) {
        String framed = "^" + line + "$";
        for (int i = 0; i <= framed.length(); i++) {
            for (int j = i; j <= framed.length(); j++) {
                String piece = framed.substring(i, j);
                boolean stands = stands(sentences, piece);
                Check.equal(what + " fits(" + i + ", " + j + ")", x.fits(i, j), stands ? 1 : 0);
                int next = 0;
                int ahead = 0;
                for (int s = 0; s <= 8; s++) {
                    int bit = 1 << s;
                    next |= stands(sentences, piece + (s == 8 ? '$' : (char) ('a' + s))) ? bit : 0;
                    ahead |= stands(sentences, (s == 8 ? '^' : (char) ('a' + s)) + piece) ? bit : 0;
                }
                Check.equal(what + " next(" + i + ", " + j + ")", x.next(i, j), stands ? next : -2);
                Check.equal(what + " ahead(" + i + ", " + j + ")", x.ahead(i, j), stands ? ahead : -2);
                if (!piece.contains("^") && !piece.contains("$")) {
                    askYields(x, what, sentences, piece, i);
                }
            }
        }
    }

    private static void askYields(PiecesThatFit x, String what, TreeSet<String> sentences, String piece, int i) {
        int j = i + piece.length();
        String ask = what + " yields of " + i + ", " + j;
        Check.equal(ask, x.yields(0, 0, i, j), sentences.contains(piece) ? 1 : 0);
        Check.equal(ask, x.yields(0, 1, i, j), sentences.stream().anyMatch(s -> s.startsWith(piece)) ? 1 : 0);
        Check.equal(ask, x.yields(0, 2, i, j), sentences.stream().anyMatch(s -> s.endsWith(piece)) ? 1 : 0);
        Check.equal(ask, x.yields(0, 3, i, j), sentences.stream().anyMatch(s -> s.contains(piece)) ? 1 : 0);
    }

    private static void askNeeded(PiecesThatFit x, String what, TreeSet<String> sentences, String line) {
        int least = Integer.MAX_VALUE;
        for (String sentence : sentences) {
            least = Math.min(least, changes(line, sentence));
        }
        Check.equal(what + " needed()", x.needed(), least);
        Check.equal(what + " sentence()", x.sentence(), sentences.contains(line) ? 1 : 0);
    }

    private static int changes(String from, String to) {
        int[][] d = new int[from.length() + 1][to.length() + 1];
        for (int i = 0; i <= from.length(); i++) {
            for (int j = 0; j <= to.length(); j++) {
                if (i == 0 || j == 0) {
                    d[i][j] = i + j;
                } else {
                    int same = from.charAt(i - 1) == to.charAt(j - 1) ? 0 : 1;
                    d[i][j] = Math.min(d[i - 1][j - 1] + same, 1 + Math.min(d[i - 1][j], d[i][j - 1]));
                }
            }
        }
        return d[from.length()][to.length()];
    }

    private static void askCounts(PiecesThatFit x, String grammar, TreeSet<String> sentences) {
        for (int n = 0; n <= 5; n++) {
            int length = n;
            Check.equal(grammar + " sentences(" + n + ")", x.sentences(n),
                    sentences.stream().filter(s -> s.length() == length).count());
            String first = sentences.stream().filter(s -> s.length() == length).findFirst().orElse("");
            Check.equal(grammar + " the first of " + n, Check.rowOf(x),
                    String.join(" ", first.chars().mapToObj(c -> "" + (c - 'a')).toList()));
        }
        Check.equal(grammar + " shortest", x.capital(0, 4),
                sentences.stream().mapToInt(String::length).min().orElse(-1));
    }
}
