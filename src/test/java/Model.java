import java.util.ArrayDeque;
import java.util.ArrayList;
import java.util.Arrays;
import java.util.HashMap;
import java.util.List;
import java.util.Map;
import java.util.TreeSet;

/**
 * The document again, written from its words with the Java library and by other means than the class: texts are
 * Strings, and what a capital yields is asked by walking a little automaton through the rules.
 */
final class Model {
    static final class Throws extends RuntimeException {
        private static final long serialVersionUID = 1L;
    }

    /** The GRAMMAR is its text; THE LINE and BRACKETS are texts, too. */
    static final class State {
        String grammar = "A=";
        String line = "";
        String pairs = "";

        State copy() {
            State s = new State();
            s.grammar = grammar;
            s.line = line;
            s.pairs = pairs;
            return s;
        }
    }

    private State now = new State();
    private String text = "";
    private final ArrayDeque<State> past = new ArrayDeque<>();
    private final State[] kept = new State[2];
    private List<Long> row = new ArrayList<>();
    private final Map<String, Boolean> known = new HashMap<>();
    private final Map<String, Rules> rulesOf = new HashMap<>();

    // ---- the rules of a grammar that was taken

    static final class Rules {
        final List<String> alternatives = new ArrayList<>();
        final List<Character> owners = new ArrayList<>();
        final String told;

        Rules(String grammar) {
            StringBuilder capitals = new StringBuilder();
            for (String rule : grammar.split(";", -1)) {
                capitals.append(rule.charAt(0));
                for (String alternative : rule.substring(2).split("\\|", -1)) {
                    alternatives.add(alternative);
                    owners.add(rule.charAt(0));
                }
            }
            told = capitals.toString();
        }

        char start() {
            return told.charAt(0);
        }

        /** Bits: which states of an automaton each state is led to by what a capital yields. */
        Map<Character, long[]> walk(Map<Character, long[]> steps, int states) {
            Map<Character, long[]> walked = new HashMap<>(steps);
            for (char c : told.toCharArray()) {
                walked.put(c, new long[states]);
            }
            for (boolean changed = true; changed;) {
                changed = false;
                for (int k = 0; k < alternatives.size(); k++) {
                    long[] to = walked.get(owners.get(k));
                    for (int s = 0; s < states; s++) {
                        long at = 1L << s;
                        for (char c : alternatives.get(k).toCharArray()) {
                            at = through(walked.get(c), at);
                        }
                        if ((at & ~to[s]) != 0) {
                            to[s] |= at;
                            changed = true;
                        }
                    }
                }
            }
            return walked;
        }

        private static long through(long[] steps, long at) {
            long to = 0;
            for (int s = 0; s < steps.length; s++) {
                if ((at >> s & 1) != 0) {
                    to |= steps[s];
                }
            }
            return to;
        }

        /** Is there something that a capital yields: any signs (if loose), a piece, any signs (if loose)? */
        boolean yields(char capital, boolean looseLeft, String piece, boolean looseRight) {
            int m = piece.length();
            Map<Character, long[]> steps = new HashMap<>();
            for (char c : "abcdefgh".toCharArray()) {
                long[] to = new long[m + 1];
                for (int s = 0; s < m; s++) {
                    if (piece.charAt(s) == c) {
                        to[s] |= 1L << s + 1;
                    }
                }
                if (looseLeft) {
                    to[0] |= 1;
                }
                if (looseRight) {
                    to[m] |= 1L << m;
                }
                steps.put(c, to);
            }
            return (walk(steps, m + 1).get(capital)[0] >> m & 1) != 0;
        }
    }

    private Rules rules(String grammar) {
        return rulesOf.computeIfAbsent(grammar, Rules::new);
    }

    private boolean ask(String grammar, char capital, boolean left, String piece, boolean right) {
        String key = grammar + " " + capital + left + piece + right;
        return known.computeIfAbsent(key, k -> rules(grammar).yields(capital, left, piece, right));
    }

    /** A piece of ^, some signs, $. */
    private boolean fitting(String piece) {
        String inner = piece;
        boolean left = !inner.startsWith("^");
        boolean right = !inner.endsWith("$");
        inner = inner.replace("^", "").replace("$", "");
        if (piece.isEmpty() || piece.equals("^") || piece.equals("$")) {
            return true;
        }
        if (!(left ? "" : "^").concat(inner).concat(right ? "" : "$").equals(piece)) {
            return false;
        }
        return ask(now.grammar, rules(now.grammar).start(), left, inner, right);
    }

    private boolean isSentence(String grammar, String word) {
        return ask(grammar, rules(grammar).start(), false, word, false);
    }

    private int signsOf(String grammar) {
        int bits = 0;
        for (int s = 0; s < 8; s++) {
            if (ask(grammar, rules(grammar).start(), true, "" + (char) ('a' + s), true)) {
                bits |= 1 << s;
            }
        }
        return bits;
    }

    // ---- texts

    long sign(int v) {
        if (text.length() + 4 > 80) {
            return -1;
        }
        for (int b = 3; b >= 0; b--) {
            text += (char) (v >> 8 * b & 255);
        }
        return text.length();
    }

    long end(int n) {
        if (n < 0 || n > text.length()) {
            return 0;
        }
        text = text.substring(0, n);
        return 1;
    }

    private String takeText() {
        String t = text;
        text = "";
        return t;
    }

    private void remember(State before) {
        past.addLast(before);
        if (past.size() > 10) {
            past.removeFirst();
        }
    }

    private static boolean canGoOn(String begin) {
        // a beginning of a grammar's text, whatever comes behind: each rule but the last one is whole
        String[] rules = begin.split(";", -1);
        int alternatives = 0;
        TreeSet<Character> capitals = new TreeSet<>();
        for (int r = 0; r < rules.length; r++) {
            boolean last = r == rules.length - 1;
            String rule = rules[r];
            String form = "[A-F]=[a-hA-F]{0,4}(\\|[a-hA-F]{0,4})*";
            if (!rule.matches(form) && !(last && rule.matches("|[A-F]"))) {
                return false;
            }
            if (!rule.isEmpty() && !capitals.add(rule.charAt(0))) {
                return false;
            }
            alternatives += rule.length() > 1 ? rule.split("\\|", -1).length : 0;
        }
        return alternatives <= 12;
    }

    long grammar() {
        String t = takeText();
        for (int p = 0; p < t.length(); p++) {
            if (!canGoOn(t.substring(0, p + 1))) {
                return -1 - p;
            }
        }
        int behind = t.lastIndexOf(';') + 1;
        if (t.length() - behind < 2) {
            return -1 - t.length();
        }
        Rules told = new Rules(t);
        for (String alternative : told.alternatives) {
            for (char c : alternative.toCharArray()) {
                if (c <= 'F' && told.told.indexOf(c) < 0) {
                    return -201;
                }
            }
        }
        if (!told.yields(told.start(), true, "", true)) {
            return -200;
        }
        remember(now.copy());
        now.grammar = t;
        return told.alternatives.size();
    }

    long line() {
        String t = takeText();
        for (int p = 0; p < t.length(); p++) {
            if (!t.substring(0, p + 1).matches("[a-h]{0,14}")) {
                return -1 - p;
            }
        }
        remember(now.copy());
        now.line = t;
        return t.length();
    }

    long brackets() {
        String t = takeText();
        for (int p = 0; p < t.length(); p++) {
            if (!t.substring(0, p + 1).matches("[a-h]{0,6}") || t.indexOf(t.charAt(p)) < p) {
                return -1 - p;
            }
        }
        if (t.length() % 2 == 1) {
            return -1 - t.length();
        }
        remember(now.copy());
        now.pairs = t;
        return t.length() / 2;
    }

    long symbol(int k, int i) {
        List<String> all = rules(now.grammar).alternatives;
        if (k < 0 || k >= all.size() || i < 0 || i >= all.get(k).length()) {
            throw new Throws();
        }
        char c = all.get(k).charAt(i);
        return c >= 'a' ? c - 'a' : c - 'A' + 8;
    }

    long at(int p) {
        if (p < 1 || p > now.line.length()) {
            throw new Throws();
        }
        return now.line.charAt(p - 1) - 'a';
    }

    long sheet(int kind, int n, int f, int step) {
        if (kind < 0 || kind > 3 || n > 14) {
            return -1;
        }
        if (kind == 3) {
            now.line = "";
            return -3;
        }
        if (n < 0) {
            return -2;
        }
        StringBuilder b = new StringBuilder();
        for (int i = 0; i < n; i++) {
            int entry = f + i * step;
            entry = kind == 0 ? (byte) entry : kind == 1 ? (short) entry : entry;
            b.append((char) ('a' + (entry % 8 + 8) % 8));
        }
        now.line = b.toString();
        return n;
    }

    // ---- pieces

    private String framed(String line) {
        return "^" + line + "$";
    }

    private boolean piece(int i, int j) {
        return 0 <= i && i <= j && j <= now.line.length() + 2;
    }

    private boolean fitsIn(String line, int i, int j) {
        return fitting(framed(line).substring(i, j));
    }

    long fits(int i, int j) {
        return !piece(i, j) ? -1 : fitsIn(now.line, i, j) ? 1 : 0;
    }

    long onwards(int i) {
        if (!piece(i, i)) {
            return -1;
        }
        int j = now.line.length() + 2;
        while (!fitsIn(now.line, i, j)) {
            j--;
        }
        return j;
    }

    long back(int j) {
        if (!piece(j, j)) {
            return -1;
        }
        int i = 0;
        while (!fitsIn(now.line, i, j)) {
            i++;
        }
        return i;
    }

    long sentence() {
        return isSentence(now.grammar, now.line) ? 1 : 0;
    }

    private long tell(long answer, long... numbers) {
        row = new ArrayList<>();
        for (long number : numbers) {
            row.add(number);
        }
        return answer;
    }

    long next(int i, int j) {
        return neighbours(i, j, false);
    }

    long ahead(int i, int j) {
        return neighbours(i, j, true);
    }

    private long neighbours(int i, int j, boolean ahead) {
        if (!piece(i, j)) {
            return -1;
        }
        if (!fitsIn(now.line, i, j)) {
            return -2;
        }
        String piece = framed(now.line).substring(i, j);
        int bits = 0;
        for (char c : "abcdefgh".toCharArray()) {
            if (fitting(ahead ? c + piece : piece + c)) {
                bits |= 1 << c - 'a';
            }
        }
        if (fitting(ahead ? "^" + piece : piece + "$")) {
            bits |= 256;
        }
        return tell(bits, Integer.bitCount(bits));
    }

    long yields(int capital, int sort, int i, int j) {
        if (sort < 0 || sort > 3 || noCapital(capital) || !piece(i, j)) {
            return -1;
        }
        String piece = framed(now.line).substring(i, j);
        if (piece.contains("^") || piece.contains("$")) {
            return -1;
        }
        boolean left = sort == 2 || sort == 3;
        boolean right = sort == 1 || sort == 3;
        return ask(now.grammar, (char) ('A' + capital), left, piece, right) ? 1 : 0;
    }

    private boolean noCapital(int capital) {
        return capital < 0 || capital > 5 || rules(now.grammar).told.indexOf('A' + capital) < 0;
    }

    // ---- reports

    private List<int[]> reportOf(String line, int[] mates) {
        List<int[]> told = new ArrayList<>();
        int last = line.length() + 2;
        for (int p = 0; p <= last;) {
            int j = p;
            while (j <= last && fitsIn(line, p, j)) {
                j++;
            }
            if (j > last) {
                break;
            }
            int i = j;
            while (fitsIn(line, i, j)) {
                i--;
            }
            told.add(new int[] {i, j});
            p = j;
            for (int open = 1; mates != null && open < j && open <= line.length(); open++) {
                if (mates[open] > open && mates[open] >= j) {
                    p = mates[open] + 1;
                }
            }
        }
        return told;
    }

    private long tellPieces(List<int[]> told) {
        row = new ArrayList<>();
        for (int[] piece : told) {
            row.add((long) piece[0]);
            row.add((long) piece[1]);
        }
        return told.size();
    }

    long report() {
        return tellPieces(reportOf(now.line, null));
    }

    long backwards() {
        List<int[]> told = new ArrayList<>();
        int last = now.line.length() + 2;
        for (int q = last; q >= 0;) {
            int i = q;
            while (i >= 0 && fitsIn(now.line, i, q)) {
                i--;
            }
            if (i < 0) {
                break;
            }
            int j = i;
            while (fitsIn(now.line, i, j)) {
                j++;
            }
            told.add(0, new int[] {i, j});
            q = i;
        }
        return tellPieces(told);
    }

    private int[] mates() {
        int[] mates = new int[now.line.length() + 1];
        List<Integer> waiting = new ArrayList<>();
        for (int p = 1; p <= now.line.length(); p++) {
            int k = now.pairs.indexOf(now.line.charAt(p - 1));
            if (k < 0) {
                continue;
            }
            if (k % 2 == 0) {
                waiting.add(p);
                continue;
            }
            for (int w = waiting.size() - 1; w >= 0; w--) {
                int open = waiting.get(w);
                if (now.line.charAt(open - 1) == now.pairs.charAt(k - 1)) {
                    mates[p] = open;
                    mates[open] = p;
                    waiting = new ArrayList<>(waiting.subList(0, w));
                    break;
                }
            }
        }
        return mates;
    }

    long led() {
        return tellPieces(reportOf(now.line, mates()));
    }

    long least() {
        List<int[]> told = new ArrayList<>();
        int last = now.line.length() + 2;
        for (int i = 0; i <= last; i++) {
            for (int j = i; j <= last; j++) {
                boolean good = !fitsIn(now.line, i, j);
                for (int a = i; a <= j && good; a++) {
                    for (int b = a; b <= j && good; b++) {
                        good = a == i && b == j || fitsIn(now.line, a, b);
                    }
                }
                if (good) {
                    told.add(new int[] {i, j});
                }
            }
        }
        return tellPieces(told);
    }

    long mate(int p) {
        if (p < 1 || p > now.line.length()) {
            return -1;
        }
        int place = mates()[p];
        return place == 0 ? -2 : tell(place, place < p ? 1 : 0);
    }

    /** Signs that go may do so ahead of and behind each symbol: of a capital, the dearest way from place to place. */
    private int neededOf(String line) {
        Rules rules = rules(now.grammar);
        int n = line.length();
        int far = 1_000_000;
        Map<Character, int[][]> cost = new HashMap<>();
        for (char c = 'A'; c <= 'h'; c++) {
            int[][] m = new int[n + 1][n + 1];
            for (int s = 0; s <= n; s++) {
                Arrays.fill(m[s], far);
                if (c >= 'a') {
                    m[s][s] = 1;
                    if (s < n) {
                        m[s][s + 1] = line.charAt(s) == c ? 0 : 1;
                    }
                }
            }
            cost.put(c, m);
        }
        int[][] gone = new int[n + 1][n + 1];
        for (int s = 0; s <= n; s++) {
            for (int t = 0; t <= n; t++) {
                gone[s][t] = t >= s ? t - s : far;
            }
        }
        for (boolean changed = true; changed;) {
            changed = false;
            for (int k = 0; k < rules.alternatives.size(); k++) {
                int[][] m = gone;
                for (char c : rules.alternatives.get(k).toCharArray()) {
                    m = joined(joined(m, cost.get(c)), gone);
                }
                int[][] to = cost.get(rules.owners.get(k));
                for (int s = 0; s <= n; s++) {
                    for (int t = s; t <= n; t++) {
                        if (m[s][t] < to[s][t]) {
                            to[s][t] = m[s][t];
                            changed = true;
                        }
                    }
                }
            }
        }
        return cost.get(rules.start())[0][n];
    }

    private static int[][] joined(int[][] a, int[][] b) {
        int n = a.length;
        int[][] c = new int[n][n];
        for (int s = 0; s < n; s++) {
            for (int t = 0; t < n; t++) {
                int least = 1_000_000;
                for (int r = s; r <= t; r++) {
                    least = Math.min(least, a[s][r] + b[r][t]);
                }
                c[s][t] = least;
            }
        }
        return c;
    }

    long needed() {
        return tell(neededOf(now.line), reportOf(now.line, null).size());
    }

    private int leftWithout(int p) {
        return reportOf(now.line.substring(0, p - 1) + now.line.substring(p), null).size();
    }

    long without(int p) {
        if (p < 1 || p > now.line.length()) {
            return -1;
        }
        int left = leftWithout(p);
        return tell(left, reportOf(now.line, null).size() - left);
    }

    long blames() {
        int best = 0;
        for (int p = now.line.length(); p >= 1; p--) {
            if (best == 0 || leftWithout(p) <= leftWithout(best)) {
                best = p;
            }
        }
        return best == 0 ? -2 : tell(best, leftWithout(best));
    }

    long longest() {
        int last = now.line.length() + 2;
        for (int size = last; size > 0; size--) {
            for (int i = 0; i + size <= last; i++) {
                if (fitsIn(now.line, i, i + size)) {
                    return tell(size, i, i + size);
                }
            }
        }
        throw new AssertionError();
    }

    long weakest() {
        int last = now.line.length() + 2;
        int worst = -1;
        int[] worstPiece = null;
        for (int p = 0; p < last; p++) {
            int[] best = null;
            for (int i = 0; i <= p; i++) {
                for (int j = p + 1; j <= last; j++) {
                    if (fitsIn(now.line, i, j) && (best == null || j - i > best[1] - best[0])) {
                        best = new int[] {i, j};
                    }
                }
            }
            if (best == null) {
                return -2;
            }
            if (worstPiece == null || best[1] - best[0] < worstPiece[1] - worstPiece[0]) {
                worst = p;
                worstPiece = best;
            }
        }
        return tell(worst, worstPiece[0], worstPiece[1]);
    }

    long wide(int k) {
        int last = now.line.length() + 2;
        if (k < 1 || k > last) {
            return -1;
        }
        int count = 0;
        int first = -1;
        for (int i = last - k; i >= 0; i--) {
            if (fitsIn(now.line, i, i + k)) {
                count++;
            } else {
                first = i;
            }
        }
        return first < 0 ? tell(count) : tell(count, first);
    }

    // ---- the grammar

    long capital(int capital, int what) {
        if (noCapital(capital) || what < 0 || what > 7) {
            return -1;
        }
        Rules rules = rules(now.grammar);
        char c = (char) ('A' + capital);
        boolean something = ask(now.grammar, c, true, "", true);
        switch (what) {
            case 0:
                return rules.owners.stream().filter(o -> o == c).count();
            case 1:
                return something ? 1 : 0;
            case 2:
                return reached(rules).contains(c) ? 1 : 0;
            case 3:
                return ask(now.grammar, c, false, "", false) ? 1 : 0;
            default:
                break;
        }
        if (!something) {
            return -2;
        }
        if (what == 4) {
            return shortest(rules, c);
        }
        int bits = 0;
        for (int s = 0; s < 8; s++) {
            if (ask(now.grammar, c, what != 5, "" + (char) ('a' + s), what != 6)) {
                bits |= 1 << s;
            }
        }
        return bits;
    }

    private static TreeSet<Character> reached(Rules rules) {
        TreeSet<Character> reached = new TreeSet<>();
        ArrayDeque<Character> todo = new ArrayDeque<>(List.of(rules.start()));
        while (!todo.isEmpty()) {
            char c = todo.pop();
            if (c < 'a' && reached.add(c)) {
                for (int k = 0; k < rules.alternatives.size(); k++) {
                    if (rules.owners.get(k) == c) {
                        for (char d : rules.alternatives.get(k).toCharArray()) {
                            todo.push(d);
                        }
                    }
                }
            }
        }
        return reached;
    }

    private static int shortest(Rules rules, char capital) {
        Map<Character, Integer> lengths = new HashMap<>();
        for (int round = 0; round < 8; round++) {
            for (int k = 0; k < rules.alternatives.size(); k++) {
                int length = 0;
                for (char c : rules.alternatives.get(k).toCharArray()) {
                    length += c >= 'a' ? 1 : lengths.getOrDefault(c, 1_000_000);
                }
                lengths.merge(rules.owners.get(k), Math.min(length, 1_000_000), Math::min);
            }
        }
        return lengths.get(capital);
    }

    private static List<String> wordsOf(int bits, int n) {
        List<String> words = new ArrayList<>(List.of(""));
        for (int k = 0; k < n; k++) {
            List<String> longer = new ArrayList<>();
            for (String word : words) {
                for (int s = 0; s < 8; s++) {
                    if ((bits >> s & 1) != 0) {
                        longer.add(word + (char) ('a' + s));
                    }
                }
            }
            words = longer;
        }
        return words;
    }

    private static long[] numbersOf(String word, int... more) {
        long[] numbers = new long[word.length() + more.length];
        for (int k = 0; k < word.length(); k++) {
            numbers[k] = word.charAt(k) - 'a';
        }
        for (int k = 0; k < more.length; k++) {
            numbers[word.length() + k] = more[k];
        }
        return numbers;
    }

    long sentences(int n) {
        if (n < 0 || n > 5) {
            return -1;
        }
        int bits = signsOf(now.grammar);
        if (Math.pow(Integer.bitCount(bits), n) > 1000) {
            return -2;
        }
        String first = "";
        int count = 0;
        for (String word : wordsOf(bits, n)) {
            if (isSentence(now.grammar, word)) {
                first = count == 0 ? word : first;
                count++;
            }
        }
        return tell(count, numbersOf(first));
    }

    long apart(int i, int n) {
        if (i < 0 || i > 1 || n < 0 || n > 5) {
            return -1;
        }
        if (kept[i] == null) {
            return -3;
        }
        int bits = signsOf(now.grammar) | signsOf(kept[i].grammar);
        if (Math.pow(Integer.bitCount(bits), n) > 1000) {
            return -4;
        }
        for (int length = 0; length <= n; length++) {
            for (String word : wordsOf(bits, length)) {
                boolean mine = isSentence(now.grammar, word);
                if (mine != isSentence(kept[i].grammar, word)) {
                    return tell(length, numbersOf(word, mine ? 1 : 0));
                }
            }
        }
        return -2;
    }

    // ---- changes

    private static long changed(StringBuilder line, char kind, int p, int s) {
        boolean stands = p >= 1 && p <= line.length();
        if (kind == 'd') {
            if (!stands) {
                return -1;
            }
            line.deleteCharAt(p - 1);
            return line.length();
        }
        if (s < 0 || s > 7 || !stands && !(kind == 'i' && p == line.length() + 1)) {
            return -1;
        }
        if (kind == 'i') {
            if (line.length() == 14) {
                return -3;
            }
            line.insert(p - 1, (char) ('a' + s));
            return line.length();
        }
        int old = line.charAt(p - 1) - 'a';
        if (old == s) {
            return -2;
        }
        line.setCharAt(p - 1, (char) ('a' + s));
        return old;
    }

    private long change(char kind, int p, int s) {
        StringBuilder line = new StringBuilder(now.line);
        long answer = changed(line, kind, p, s);
        if (answer >= 0) {
            remember(now.copy());
            now.line = line.toString();
        }
        return answer;
    }

    long becomes(int p, int s) {
        return change('r', p, s);
    }

    long comes(int p, int s) {
        return change('i', p, s);
    }

    long goes(int p) {
        return change('d', p, 0);
    }

    long day() {
        String t = takeText();
        String rest = t;
        List<String> changes = new ArrayList<>();
        while (!rest.isEmpty()) {
            int length = rest.charAt(0) == 'd' ? 3 : 4;
            String[] forms = {"[rid]", "[rid][0-9]", "[rid][0-9][0-9]", "[ri][0-9][0-9][a-h]"};
            for (int k = 1; k <= length; k++) {
                if (k > rest.length() || !rest.substring(0, k).matches(forms[k - 1])) {
                    return -1 - (t.length() - rest.length() + k - 1);
                }
            }
            changes.add(rest.substring(0, length));
            rest = rest.substring(length);
        }
        State before = now.copy();
        StringBuilder line = new StringBuilder(now.line);
        int done = 0;
        int failed = 0;
        for (String c : changes) {
            int s = c.length() == 4 ? c.charAt(3) - 'a' : 0;
            if (changed(line, c.charAt(0), Integer.parseInt(c.substring(1, 3)), s) < 0) {
                failed = 1;
                break;
            }
            done++;
        }
        now.line = line.toString();
        if (done > 0) {
            remember(before);
        }
        return tell(done, failed, reportOf(now.line, null).size());
    }

    long undo() {
        if (past.isEmpty()) {
            return -1;
        }
        now = past.removeLast();
        return past.size();
    }

    private static int drawn(long[] r, int n) {
        r[0] = (r[0] * 1103515245L + 12345L) & 0xffffffffL;
        return (int) (r[0] / 65536 % n);
    }

    long years(int seed, int n) {
        if (n < 1 || n > 20) {
            return -1;
        }
        long[] r = {seed & 0xffffffffL};
        StringBuilder line = new StringBuilder(now.line);
        int done = 0;
        for (int k = 0; k < n; k++) {
            char kind = "rid".charAt(drawn(r, 3));
            int p = drawn(r, 14) + 1;
            int s = kind == 'd' ? 0 : drawn(r, 8);
            done += changed(line, kind, p, s) >= 0 ? 1 : 0;
        }
        String then = line.toString();
        return tell(reportOf(then, null).size(), neededOf(then), then.length(), done);
    }

    // ---- kept

    long keep(int i) {
        if (i < 0 || i > 1) {
            return 0;
        }
        kept[i] = now.copy();
        return 1;
    }

    long again(int i) {
        if (i < 0 || i > 1 || kept[i] == null) {
            return 0;
        }
        now = kept[i].copy();
        past.clear();
        return 1;
    }

    long count(int what) {
        Rules rules = rules(now.grammar);
        switch (what) {
            case 0:
                return now.line.length();
            case 1:
                return rules.alternatives.size();
            case 2:
                return rules.told.chars().map(c -> 1 << c - 'A').sum();
            case 3:
                return rules.start() - 'A';
            case 4:
                return now.pairs.length() / 2;
            case 5:
                return past.size();
            case 6:
                return row.size();
            case 7:
                return text.length();
            case 8:
                return signsOf(now.grammar);
            default:
                return -1;
        }
    }

    long row(int i) {
        if (i < 0 || i >= row.size()) {
            throw new Throws();
        }
        return row.get(i);
    }
}
