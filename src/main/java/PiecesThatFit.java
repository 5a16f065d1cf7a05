import java.util.NoSuchElementException;

/** What is wrong in a line, and where: pieces of it that some sentence of a grammar has, and pieces that none has. */
public final class PiecesThatFit {
    public static final int NONE = -1;

    private static final int SIGNS = 8;
    private static final int CAPITALS = 6;
    private static final int MOST_ALTERNATIVES = 12;
    private static final int MOST_SYMBOLS = 4;
    private static final int MOST_SIGNS = 14;
    private static final int MOST_TEXT = 80;
    private static final int MOST_PAIRS = 3;
    private static final int MOST_UNDONE = 10;
    private static final int MOST_KEPT = 2;
    private static final int MOST_LETTERS = 5;
    private static final int MOST_WORDS = 1000;
    private static final int MOST_YEARS = 20;

    /** ^ and $ stand beside the signs of a line. */
    private static final int MOST_PLACES = MOST_SIGNS + 2;
    private static final int MOST_NUMBERS = 2 * MOST_PLACES + 8;

    /** Of a GRAMMAR's SYMBOLS, signs are 0 .. 7, capitals come behind. */
    private static final int FIRST_CAPITAL = SIGNS;
    /** Of a chart's symbols, signs, ^ and $ are tokens, capitals come behind. */
    private static final int BEGIN = SIGNS;
    private static final int END = SIGNS + 1;
    private static final int TOKENS = SIGNS + 2;
    private static final int EDGE_BIT = 256;

    private static final int NO_SENTENCE = -200;
    private static final int NO_RULE = -201;

    /** Above each length and each number of changes (a sentence of 4 to the 6th signs is the longest shortest one). */
    private static final int FAR = 1 << 20;
    /** Far above the rounds after which nothing can change any more. */
    private static final int MOST_ROUNDS = 1000;

    private final Text text = new Text();
    private final GrammarReader reader = new GrammarReader();
    private final Desk now = new Desk();
    private final Desk before = new Desk();
    private final Line trial = new Line();
    private final History history = new History();
    private final Desk[] kept = new Desk[MOST_KEPT];
    private final boolean[] isKept = new boolean[MOST_KEPT];
    private final Chart lineChart = new Chart();
    private final Chart trialChart = new Chart();
    private final Chart otherChart = new Chart();
    private final Distance distance = new Distance();
    private final Report pieces = new Report();
    private final Words words = new Words();
    private final long[] numbers = new long[MOST_NUMBERS];
    private int rowSize;

    public PiecesThatFit() {
        for (int i = 0; i < MOST_KEPT; i++) {
            kept[i] = new Desk();
        }
    }

    // ---- texts

    public int sign(int v) {
        return text.add(v) ? text.size : NONE;
    }

    public boolean end(int n) {
        return text.shorten(n);
    }

    public int grammar() {
        int answer = reader.read(text);
        text.clear();
        if (answer >= 0) {
            history.push(now);
            now.grammar.copyFrom(reader.draft);
        }
        return answer;
    }

    public int line() {
        int misfit = text.misfitOfLine();
        if (misfit == NONE) {
            history.push(now);
            text.copyLineTo(now.line);
        }
        text.clear();
        return misfit == NONE ? now.line.size : cannotStand(misfit);
    }

    public int brackets() {
        int misfit = text.misfitOfPairs();
        if (misfit == NONE) {
            history.push(now);
            text.copyPairsTo(now);
        }
        text.clear();
        return misfit == NONE ? now.pairs : cannotStand(misfit);
    }

    public int symbol(int k, int i) throws NoSuchElementException {
        Grammar grammar = now.grammar;
        if (k < 0 || k >= grammar.alternatives || i < 0 || i >= grammar.sizes[k]) {
            throw new NoSuchElementException("no such symbol");
        }
        return grammar.symbols[k * MOST_SYMBOLS + i];
    }

    public int at(int p) throws NoSuchElementException {
        if (!now.line.has(p)) {
            throw new NoSuchElementException("no such place");
        }
        return now.line.signs[p - 1];
    }

    public int sheet(int kind, int n, int f, int step) {
        if (kind < 0 || kind > 3 || n > MOST_SIGNS) {
            return NONE;
        }
        if (kind == 3) {
            now.line.size = 0;
            return -3;
        }
        if (n < 0) {
            return -2;
        }
        int entry = f;
        for (int i = 0; i < n; i++) {
            // bytes and shorts keep the lowest bits, and these alone say what is left modulo 8
            now.line.signs[i] = Math.floorMod(entry, SIGNS);
            entry += step;
        }
        now.line.size = n;
        return n;
    }

    private static int cannotStand(int p) {
        return -1 - p;
    }

    // ---- pieces

    public int fits(int i, int j) {
        if (!isPiece(i, j)) {
            return NONE;
        }
        return lineRead().leastFitting(j) <= i ? 1 : 0;
    }

    public int onwards(int i) {
        if (!isPiece(i, i)) {
            return NONE;
        }
        return lineRead().greatestFitting(i);
    }

    public int back(int j) {
        if (!isPiece(j, j)) {
            return NONE;
        }
        return lineRead().leastFitting(j);
    }

    public int sentence() {
        return lineRead().yieldsWhole(now.grammar.start, 1, now.line.size + 1) ? 1 : 0;
    }

    public int next(int i, int j) {
        if (!isPiece(i, j)) {
            return NONE;
        }
        return tellFollowers(lineRead(), i, j, END);
    }

    public int ahead(int i, int j) {
        if (!isPiece(i, j)) {
            return NONE;
        }
        int last = now.line.size + 2;
        otherChart.read(now.grammar, now.line, true);
        return tellFollowers(otherChart, last - j, last - i, BEGIN);
    }

    public int yields(int capital, int sort, int i, int j) {
        if (sort < 0 || sort > 3 || !now.grammar.has(capital) || !isPiece(i, j) || hasEdge(i, j)) {
            return NONE;
        }
        return lineRead().yieldsPart(capital, sort, i, j) ? 1 : 0;
    }

    private boolean isPiece(int i, int j) {
        return i >= 0 && i <= j && j <= now.line.size + 2;
    }

    private boolean hasEdge(int i, int j) {
        return i < j && (i == 0 || j == now.line.size + 2);
    }

    private Chart lineRead() {
        lineChart.read(now.grammar, now.line, false);
        return lineChart;
    }

    private int tellFollowers(Chart chart, int i, int j, int edge) {
        if (chart.leastFitting(j) > i) {
            return -2;
        }
        int bits = chart.followers(i, j, edge);
        tellOne(Integer.bitCount(bits));
        return bits;
    }

    // ---- reports

    public int report() {
        pieces.fromLeft(lineRead(), false);
        return tellPieces();
    }

    public int backwards() {
        pieces.fromRight(lineRead());
        return tellPieces();
    }

    public int led() {
        pieces.findMates(now);
        pieces.fromLeft(lineRead(), true);
        return tellPieces();
    }

    public int least() {
        pieces.leastOnes(lineRead());
        return tellPieces();
    }

    public int mate(int p) {
        if (!now.line.has(p)) {
            return NONE;
        }
        pieces.findMates(now);
        int place = pieces.mates[p];
        if (place == 0) {
            return -2;
        }
        tellOne(place < p ? 1 : 0);
        return place;
    }

    public int needed() {
        tellOne(piecesOf(lineChart, now.line));
        return distance.measure(lineChart, now.line);
    }

    public int without(int p) {
        if (!now.line.has(p)) {
            return NONE;
        }
        int count = piecesOf(lineChart, now.line);
        trial.copyWithout(now.line, p);
        int left = piecesOf(trialChart, trial);
        tellOne(count - left);
        return left;
    }

    public int blames() {
        int best = 0;
        int fewest = FAR;
        for (int p = 1; p <= now.line.size; p++) {
            trial.copyWithout(now.line, p);
            int left = piecesOf(trialChart, trial);
            if (left < fewest) {
                fewest = left;
                best = p;
            }
        }
        if (best == 0) {
            return -2;
        }
        tellOne(fewest);
        return best;
    }

    public int longest() {
        Chart chart = lineRead();
        int best = 0;
        for (int i = 1; i <= now.line.size + 1; i++) {
            if (chart.greatestFitting(i) - i > chart.greatestFitting(best) - best) {
                best = i;
            }
        }
        int j = chart.greatestFitting(best);
        tellTwo(best, j);
        return j - best;
    }

    public int weakest() {
        Chart chart = lineRead();
        int worst = 0;
        int worstBegin = 0;
        int shortest = FAR;
        for (int p = 0; p <= now.line.size + 1; p++) {
            int i = chart.beginOfLongestWith(p);
            if (i == NONE) {
                return -2;
            }
            int places = chart.greatestFitting(i) - i;
            if (places < shortest) {
                shortest = places;
                worst = p;
                worstBegin = i;
            }
        }
        tellTwo(worstBegin, worstBegin + shortest);
        return worst;
    }

    public int wide(int k) {
        int last = now.line.size + 2;
        if (k < 1 || k > last) {
            return NONE;
        }
        Chart chart = lineRead();
        rowSize = 0;
        int count = 0;
        for (int i = 0; i + k <= last; i++) {
            if (chart.leastFitting(i + k) <= i) {
                count++;
            } else if (rowSize == 0) {
                tellMore(i);
            }
        }
        return count;
    }

    /** How many PIECES the REPORT of a line tells. */
    private int piecesOf(Chart chart, Line line) {
        chart.read(now.grammar, line, false);
        pieces.fromLeft(chart, false);
        return pieces.size;
    }

    private int tellPieces() {
        rowSize = 0;
        for (int k = 0; k < pieces.size; k++) {
            tellMore(pieces.begins[k]);
            tellMore(pieces.ends[k]);
        }
        return pieces.size;
    }

    private void tellOne(long number) {
        rowSize = 0;
        tellMore(number);
    }

    private void tellTwo(long first, long second) {
        tellOne(first);
        tellMore(second);
    }

    private void tellMore(long number) {
        if (rowSize < MOST_NUMBERS) {
            numbers[rowSize] = number;
            rowSize++;
        }
    }

    // ---- the grammar

    public int capital(int capital, int what) {
        if (what < 0 || what > 7 || !now.grammar.has(capital)) {
            return NONE;
        }
        lineChart.learn(now.grammar, false);
        return what == 0 ? now.grammar.alternativesOf(capital) : lineChart.facts.tell(capital, what);
    }

    public int sentences(int n) {
        if (n < 0 || n > MOST_LETTERS) {
            return NONE;
        }
        trialChart.learn(now.grammar, false);
        words.useLetters(trialChart.signsOfSentences());
        int all = words.howMany(n);
        if (all > MOST_WORDS) {
            return -2;
        }
        int count = 0;
        rowSize = 0;
        for (int number = 0; number < all; number++) {
            words.spell(number, n);
            if (trialChart.isSentence(words, n)) {
                if (count == 0) {
                    tellWord(n);
                }
                count++;
            }
        }
        return count;
    }

    public int apart(int i, int n) {
        if (i < 0 || i >= MOST_KEPT || n < 0 || n > MOST_LETTERS) {
            return NONE;
        }
        if (!isKept[i]) {
            return -3;
        }
        trialChart.learn(now.grammar, false);
        otherChart.learn(kept[i].grammar, false);
        words.useLetters(trialChart.signsOfSentences() | otherChart.signsOfSentences());
        if (words.howMany(n) > MOST_WORDS) {
            return -4;
        }
        for (int length = 0; length <= n; length++) {
            if (findApart(length)) {
                return length;
            }
        }
        return -2;
    }

    private boolean findApart(int length) {
        int all = words.howMany(length);
        for (int number = 0; number < all; number++) {
            words.spell(number, length);
            boolean ofNow = trialChart.isSentence(words, length);
            if (ofNow != otherChart.isSentence(words, length)) {
                rowSize = 0;
                tellWord(length);
                tellMore(ofNow ? 1 : 0);
                return true;
            }
        }
        return false;
    }

    private void tellWord(int length) {
        for (int k = 0; k < length; k++) {
            tellMore(words.word[k]);
        }
    }

    // ---- changes

    public int becomes(int p, int s) {
        before.copyFrom(now);
        return keptIfDone(now.line.replaceAt(p, s));
    }

    public int comes(int p, int s) {
        before.copyFrom(now);
        return keptIfDone(now.line.insertAt(p, s));
    }

    public int goes(int p) {
        before.copyFrom(now);
        return keptIfDone(now.line.removeAt(p));
    }

    public int day() {
        int misfit = text.misfitOfDay();
        if (misfit != NONE) {
            text.clear();
            return cannotStand(misfit);
        }
        before.copyFrom(now);
        int done = 0;
        boolean failed = false;
        int p = 0;
        for (int step = 0; step < MOST_TEXT && p < text.size && !failed; step++) {
            if (text.changeAt(p, now.line) < 0) {
                failed = true;
            } else {
                done++;
            }
            p += Text.lengthOfChange(text.signs[p]);
        }
        text.clear();
        if (done > 0) {
            history.push(before);
        }
        tellTwo(failed ? 1 : 0, piecesOf(lineChart, now.line));
        return done;
    }

    public int undo() {
        return history.pop(now) ? history.size : NONE;
    }

    public int years(int seed, int n) {
        if (n < 1 || n > MOST_YEARS) {
            return NONE;
        }
        trial.copyFrom(now.line);
        int done = trial.live(seed, n);
        int count = piecesOf(trialChart, trial);
        tellTwo(distance.measure(trialChart, trial), trial.size);
        tellMore(done);
        return count;
    }

    private int keptIfDone(int answer) {
        if (answer >= 0) {
            history.push(before);
        }
        return answer;
    }

    // ---- kept

    public boolean keep(int i) {
        if (i < 0 || i >= MOST_KEPT) {
            return false;
        }
        kept[i].copyFrom(now);
        isKept[i] = true;
        return true;
    }

    public boolean again(int i) {
        if (i < 0 || i >= MOST_KEPT || !isKept[i]) {
            return false;
        }
        now.copyFrom(kept[i]);
        history.clear();
        return true;
    }

    public int count(int what) {
        switch (what) {
            case 0:
                return now.line.size;
            case 1:
                return now.grammar.alternatives;
            case 2:
                return now.grammar.told;
            case 3:
                return now.grammar.start;
            case 4:
                return now.pairs;
            case 5:
                return history.size;
            case 6:
                return rowSize;
            case 7:
                return text.size;
            case 8:
                lineChart.learn(now.grammar, false);
                return lineChart.signsOfSentences();
            default:
                return NONE;
        }
    }

    public long row(int i) throws NoSuchElementException {
        if (i < 0 || i >= rowSize) {
            throw new NoSuchElementException("no such number");
        }
        return numbers[i];
    }

    /** THE TEXT, and what can't stand in it where it is read. */
    private static final class Text {
        final int[] signs = new int[MOST_TEXT];
        int size;

        boolean add(int v) {
            if (size + 4 > MOST_TEXT) {
                return false;
            }
            for (int shift = 24; shift >= 0; shift -= 8) {
                signs[size] = v >>> shift & 255;
                size++;
            }
            return true;
        }

        boolean shorten(int n) {
            if (n < 0 || n > size) {
                return false;
            }
            size = n;
            return true;
        }

        void clear() {
            size = 0;
        }

        static boolean isSign(int c) {
            return c >= 'a' && c <= 'h';
        }

        int misfitOfLine() {
            for (int p = 0; p < size; p++) {
                if (p >= MOST_SIGNS || !isSign(signs[p])) {
                    return p;
                }
            }
            return NONE;
        }

        void copyLineTo(Line line) {
            line.size = Math.min(size, MOST_SIGNS);
            for (int p = 0; p < line.size; p++) {
                line.signs[p] = signs[p] - 'a';
            }
        }

        int misfitOfPairs() {
            int seen = 0;
            for (int p = 0; p < size; p++) {
                if (p >= 2 * MOST_PAIRS || !isSign(signs[p])) {
                    return p;
                }
                int bit = 1 << signs[p] - 'a';
                if ((seen & bit) != 0) {
                    return p;
                }
                seen |= bit;
            }
            return size % 2 == 0 ? NONE : size;
        }

        void copyPairsTo(Desk desk) {
            desk.pairs = Math.min(size / 2, MOST_PAIRS);
            for (int p = 0; p < 2 * desk.pairs; p++) {
                desk.pairSigns[p] = signs[p] - 'a';
            }
        }

        /** 0: no CHANGE begins with this sign. */
        static int lengthOfChange(int c) {
            if (c == 'r' || c == 'i') {
                return 4;
            }
            return c == 'd' ? 3 : 0;
        }

        int misfitOfDay() {
            int offset = 0;
            int length = 0;
            for (int p = 0; p < size; p++) {
                if (offset == 0) {
                    length = lengthOfChange(signs[p]);
                }
                if (length == 0 || !standsInChange(offset, signs[p])) {
                    return p;
                }
                offset = offset + 1 == length ? 0 : offset + 1;
            }
            return offset == 0 ? NONE : size;
        }

        private static boolean standsInChange(int offset, int c) {
            if (offset == 0) {
                return true;
            }
            return offset == 3 ? isSign(c) : c >= '0' && c <= '9';
        }

        /** What the CHANGE that is told from p on answers, done to a line. */
        int changeAt(int p, Line line) {
            int length = lengthOfChange(signs[p]);
            if (length == 0 || p + length > size) {
                return NONE;
            }
            int place = (signs[p + 1] - '0') * 10 + signs[p + 2] - '0';
            if (length == 3) {
                return line.removeAt(place);
            }
            int s = signs[p + 3] - 'a';
            return signs[p] == 'r' ? line.replaceAt(place, s) : line.insertAt(place, s);
        }
    }

    /** RULES as they were told. */
    private static final class Grammar {
        final int[] owners = new int[MOST_ALTERNATIVES];
        final int[] sizes = new int[MOST_ALTERNATIVES];
        final int[] symbols = new int[MOST_ALTERNATIVES * MOST_SYMBOLS];
        int alternatives = 1;
        int start;
        int told = 1;

        void clear() {
            alternatives = 0;
            told = 0;
        }

        boolean has(int capital) {
            return capital >= 0 && capital < CAPITALS && (told >> capital & 1) != 0;
        }

        boolean addRule(int capital) {
            if (capital < 0 || capital >= CAPITALS || has(capital)) {
                return false;
            }
            if (told == 0) {
                start = capital;
            }
            told |= 1 << capital;
            return true;
        }

        boolean addAlternative(int capital) {
            if (alternatives >= MOST_ALTERNATIVES) {
                return false;
            }
            owners[alternatives] = capital;
            sizes[alternatives] = 0;
            alternatives++;
            return true;
        }

        boolean addSymbol(int symbol) {
            int k = alternatives - 1;
            if (k < 0 || sizes[k] >= MOST_SYMBOLS) {
                return false;
            }
            symbols[k * MOST_SYMBOLS + sizes[k]] = symbol;
            sizes[k]++;
            return true;
        }

        int alternativesOf(int capital) {
            int count = 0;
            for (int k = 0; k < alternatives; k++) {
                if (owners[k] == capital) {
                    count++;
                }
            }
            return count;
        }

        boolean everyCapitalHasRule() {
            for (int k = 0; k < alternatives; k++) {
                for (int i = 0; i < sizes[k]; i++) {
                    int symbol = symbols[k * MOST_SYMBOLS + i];
                    if (symbol >= FIRST_CAPITAL && !has(symbol - FIRST_CAPITAL)) {
                        return false;
                    }
                }
            }
            return true;
        }

        void copyFrom(Grammar other) {
            System.arraycopy(other.owners, 0, owners, 0, MOST_ALTERNATIVES);
            System.arraycopy(other.sizes, 0, sizes, 0, MOST_ALTERNATIVES);
            System.arraycopy(other.symbols, 0, symbols, 0, MOST_ALTERNATIVES * MOST_SYMBOLS);
            alternatives = other.alternatives;
            start = other.start;
            told = other.told;
        }

        boolean isLike(Grammar other) {
            if (alternatives != other.alternatives) {
                return false;
            }
            for (int k = 0; k < alternatives; k++) {
                if (owners[k] != other.owners[k] || sizes[k] != other.sizes[k]) {
                    return false;
                }
                for (int i = k * MOST_SYMBOLS; i < k * MOST_SYMBOLS + sizes[k]; i++) {
                    if (symbols[i] != other.symbols[i]) {
                        return false;
                    }
                }
            }
            return true;
        }
    }

    /** Reads THE TEXT as a GRAMMAR, into a draft: a refused one must leave the old one as it was. */
    private static final class GrammarReader {
        private static final int AT_CAPITAL = 0;
        private static final int AT_EQUALS = 1;
        private static final int AT_SYMBOL = 2;

        final Grammar draft = new Grammar();
        final Facts facts = new Facts();
        int capital;
        int stage;

        int read(Text text) {
            draft.clear();
            stage = AT_CAPITAL;
            for (int p = 0; p < text.size; p++) {
                if (!takes(text.signs[p])) {
                    return cannotStand(p);
                }
            }
            if (stage != AT_SYMBOL) {
                return cannotStand(text.size);
            }
            if (!draft.everyCapitalHasRule()) {
                return NO_RULE;
            }
            facts.learn(draft);
            return facts.shortest[draft.start] < FAR ? draft.alternatives : NO_SENTENCE;
        }

        private boolean takes(int c) {
            if (stage == AT_CAPITAL) {
                capital = c - 'A';
                stage = AT_EQUALS;
                return draft.addRule(capital);
            }
            if (stage == AT_EQUALS) {
                stage = AT_SYMBOL;
                return c == '=' && draft.addAlternative(capital);
            }
            if (c == ';') {
                stage = AT_CAPITAL;
                return true;
            }
            return c == '|' ? draft.addAlternative(capital) : takesSymbol(c);
        }

        private boolean takesSymbol(int c) {
            if (Text.isSign(c)) {
                return draft.addSymbol(c - 'a');
            }
            return c >= 'A' && c < 'A' + CAPITALS && draft.addSymbol(FIRST_CAPITAL + c - 'A');
        }
    }

    /** What can be said of capitals without a line. */
    private static final class Facts {
        final int[] shortest = new int[CAPITALS];
        final int[] begins = new int[CAPITALS];
        final int[] ends = new int[CAPITALS];
        final int[] inside = new int[CAPITALS];
        int reached;

        void learn(Grammar grammar) {
            findShortest(grammar);
            findSigns(grammar);
            findReached(grammar);
        }

        boolean yieldsSomething(int capital) {
            return shortest[capital] < FAR;
        }

        int tell(int capital, int what) {
            if (what == 1) {
                return yieldsSomething(capital) ? 1 : 0;
            }
            if (what == 2) {
                return reached >> capital & 1;
            }
            if (what == 3) {
                return shortest[capital] == 0 ? 1 : 0;
            }
            if (!yieldsSomething(capital)) {
                return -2;
            }
            if (what == 4) {
                return shortest[capital];
            }
            if (what == 5) {
                return begins[capital];
            }
            return what == 6 ? ends[capital] : inside[capital];
        }

        private void findShortest(Grammar grammar) {
            for (int x = 0; x < CAPITALS; x++) {
                shortest[x] = FAR;
            }
            boolean changed = true;
            for (int round = 0; round < MOST_ROUNDS && changed; round++) {
                changed = false;
                for (int k = 0; k < grammar.alternatives; k++) {
                    int length = lengthOf(grammar, k);
                    if (length < shortest[grammar.owners[k]]) {
                        shortest[grammar.owners[k]] = length;
                        changed = true;
                    }
                }
            }
        }

        /** FAR: a capital in the ALTERNATIVE yields nothing. */
        int lengthOf(Grammar grammar, int k) {
            int length = 0;
            for (int i = 0; i < grammar.sizes[k]; i++) {
                int symbol = grammar.symbols[k * MOST_SYMBOLS + i];
                length += symbol < FIRST_CAPITAL ? 1 : shortest[symbol - FIRST_CAPITAL];
            }
            return Math.min(length, FAR);
        }

        private void findSigns(Grammar grammar) {
            for (int x = 0; x < CAPITALS; x++) {
                begins[x] = 0;
                ends[x] = 0;
                inside[x] = 0;
            }
            boolean changed = true;
            for (int round = 0; round < MOST_ROUNDS && changed; round++) {
                changed = false;
                for (int k = 0; k < grammar.alternatives; k++) {
                    if (lengthOf(grammar, k) < FAR && addSigns(grammar, k)) {
                        changed = true;
                    }
                }
            }
        }

        private boolean addSigns(Grammar grammar, int k) {
            int x = grammar.owners[k];
            int first = k * MOST_SYMBOLS;
            int size = grammar.sizes[k];
            int begin = begins[x];
            int end = ends[x];
            int in = inside[x];
            boolean atBegin = true;
            boolean atEnd = true;
            for (int i = 0; i < size; i++) {
                int left = grammar.symbols[first + i];
                int right = grammar.symbols[first + size - 1 - i];
                begin |= atBegin ? signsOf(begins, left) : 0;
                end |= atEnd ? signsOf(ends, right) : 0;
                in |= signsOf(inside, left);
                atBegin = atBegin && canVanish(left);
                atEnd = atEnd && canVanish(right);
            }
            boolean changed = begin != begins[x] || end != ends[x] || in != inside[x];
            begins[x] = begin;
            ends[x] = end;
            inside[x] = in;
            return changed;
        }

        private static int signsOf(int[] sets, int symbol) {
            return symbol < FIRST_CAPITAL ? 1 << symbol : sets[symbol - FIRST_CAPITAL];
        }

        private boolean canVanish(int symbol) {
            return symbol >= FIRST_CAPITAL && shortest[symbol - FIRST_CAPITAL] == 0;
        }

        private void findReached(Grammar grammar) {
            reached = 1 << grammar.start;
            for (int round = 0; round < CAPITALS; round++) {
                for (int k = 0; k < grammar.alternatives; k++) {
                    if ((reached >> grammar.owners[k] & 1) != 0) {
                        reached |= capitalsIn(grammar, k);
                    }
                }
            }
        }

        static int capitalsIn(Grammar grammar, int k) {
            int bits = 0;
            for (int i = 0; i < grammar.sizes[k]; i++) {
                int symbol = grammar.symbols[k * MOST_SYMBOLS + i];
                if (symbol >= FIRST_CAPITAL) {
                    bits |= 1 << symbol - FIRST_CAPITAL;
                }
            }
            return bits;
        }
    }

    /** Signs in a row, and the CHANGES of it as the document answers them. */
    private static final class Line {
        final int[] signs = new int[MOST_SIGNS];
        int size;

        boolean has(int p) {
            return p >= 1 && p <= size;
        }

        void copyFrom(Line other) {
            System.arraycopy(other.signs, 0, signs, 0, MOST_SIGNS);
            size = other.size;
        }

        void copyWithout(Line other, int p) {
            copyFrom(other);
            removeAt(p);
        }

        int replaceAt(int p, int s) {
            if (!has(p) || s < 0 || s >= SIGNS) {
                return NONE;
            }
            int old = signs[p - 1];
            if (old == s) {
                return -2;
            }
            signs[p - 1] = s;
            return old;
        }

        int insertAt(int p, int s) {
            if (p < 1 || p > size + 1 || s < 0 || s >= SIGNS) {
                return NONE;
            }
            if (size >= MOST_SIGNS) {
                return -3;
            }
            for (int i = size; i >= p; i--) {
                signs[i] = signs[i - 1];
            }
            signs[p - 1] = s;
            size++;
            return size;
        }

        int removeAt(int p) {
            if (!has(p)) {
                return NONE;
            }
            for (int i = p; i < size; i++) {
                signs[i - 1] = signs[i];
            }
            size--;
            return size;
        }

        /** CHANGES that are drawn by a seed: how many of them were done. */
        int live(int seed, int times) {
            int r = seed;
            int done = 0;
            for (int k = 0; k < times; k++) {
                r = drawn(r);
                int kind = (r >>> 16) % 3;
                r = drawn(r);
                int p = (r >>> 16) % MOST_SIGNS + 1;
                int s = 0;
                if (kind != 2) {
                    r = drawn(r);
                    s = (r >>> 16) % SIGNS;
                }
                if (changeOf(kind, p, s) >= 0) {
                    done++;
                }
            }
            return done;
        }

        private static int drawn(int r) {
            return r * 1103515245 + 12345;
        }

        private int changeOf(int kind, int p, int s) {
            if (kind == 0) {
                return replaceAt(p, s);
            }
            return kind == 1 ? insertAt(p, s) : removeAt(p);
        }
    }

    /** All that can be kept and undone. */
    private static final class Desk {
        final Grammar grammar = new Grammar();
        final Line line = new Line();
        final int[] pairSigns = new int[2 * MOST_PAIRS];
        int pairs;

        void copyFrom(Desk other) {
            grammar.copyFrom(other.grammar);
            line.copyFrom(other.line);
            System.arraycopy(other.pairSigns, 0, pairSigns, 0, 2 * MOST_PAIRS);
            pairs = other.pairs;
        }
    }

    /** Desks as they were ahead of the latest changes, in a ring, so that the oldest makes room. */
    private static final class History {
        final Desk[] desks = new Desk[MOST_UNDONE];
        int top;
        int size;

        History() {
            for (int i = 0; i < MOST_UNDONE; i++) {
                desks[i] = new Desk();
            }
        }

        void push(Desk desk) {
            desks[top].copyFrom(desk);
            top = (top + 1) % MOST_UNDONE;
            size = Math.min(size + 1, MOST_UNDONE);
        }

        boolean pop(Desk desk) {
            if (size == 0) {
                return false;
            }
            top = (top + MOST_UNDONE - 1) % MOST_UNDONE;
            desk.copyFrom(desks[top]);
            size--;
            return true;
        }

        void clear() {
            size = 0;
        }
    }

    /**
     * Which pieces of a row of tokens capitals yield, wholly or in part. Column q tells of the pieces that end ahead
     * of token q; it depends on the tokens ahead alone, so columns stay right while the row's beginning stays.
     */
    private static final class Chart {
        /** One token more than a line has: next() and ahead() try one behind. */
        private static final int MOST_TOKENS = MOST_PLACES + 1;
        private static final int COLUMNS = MOST_TOKENS + 1;
        /** Behind the capitals: what yields ^, a SENTENCE, $. */
        private static final int FRAME = CAPITALS;
        private static final int OWNERS = CAPITALS + 1;

        final Grammar grammar = new Grammar();
        final Facts facts = new Facts();
        /** ALTERNATIVES none of whose capitals yields nothing, and the frame. */
        final int[] owners = new int[MOST_ALTERNATIVES + 1];
        final int[] sizes = new int[MOST_ALTERNATIVES + 1];
        final int[] symbols = new int[(MOST_ALTERNATIVES + 1) * MOST_SYMBOLS];
        final int[] uses = new int[MOST_ALTERNATIVES + 1];
        int rules;
        boolean known;
        /** Everything from right to left: what stands ahead is what stands behind then. */
        boolean turned;

        final int[] tokens = new int[MOST_TOKENS];
        /** Bits: where a token stands. */
        final int[] places = new int[TOKENS];
        int size;
        /** Columns from 0 to this one have their parts, too. */
        int parted;

        /** Bits: where pieces begin that end at the column and are yielded, or are a beginning of what is. */
        final int[] whole = new int[OWNERS * COLUMNS];
        final int[] begun = new int[OWNERS * COLUMNS];
        /** The least begin of a piece that ends at the column and is an end of what is yielded, or is in it. */
        final int[] ending = new int[OWNERS * COLUMNS];
        final int[] within = new int[OWNERS * COLUMNS];

        void learn(Grammar told, boolean fromRight) {
            if (known && turned == fromRight && grammar.isLike(told)) {
                return;
            }
            known = true;
            turned = fromRight;
            grammar.copyFrom(told);
            facts.learn(grammar);
            rules = 0;
            for (int k = 0; k < grammar.alternatives; k++) {
                if (facts.lengthOf(grammar, k) < FAR) {
                    addRule(k);
                }
            }
            addFrame();
            size = 0;
            parted = -1;
            for (int t = 0; t < TOKENS; t++) {
                places[t] = 0;
            }
            fillWhole();
        }

        private void addRule(int k) {
            int count = grammar.sizes[k];
            for (int i = 0; i < count; i++) {
                int from = turned ? count - 1 - i : i;
                int symbol = grammar.symbols[k * MOST_SYMBOLS + from];
                symbols[rules * MOST_SYMBOLS + i] = symbol < FIRST_CAPITAL ? symbol : symbol - FIRST_CAPITAL + TOKENS;
            }
            owners[rules] = grammar.owners[k];
            sizes[rules] = count;
            uses[rules] = Facts.capitalsIn(grammar, k);
            rules++;
        }

        private void addFrame() {
            int first = rules * MOST_SYMBOLS;
            symbols[first] = turned ? END : BEGIN;
            symbols[first + 1] = TOKENS + grammar.start;
            symbols[first + 2] = turned ? BEGIN : END;
            owners[rules] = FRAME;
            sizes[rules] = 3;
            uses[rules] = 1 << grammar.start;
            rules++;
        }

        /** The row becomes ^, a line, $ (turned, if the chart is). */
        void read(Grammar told, Line line, boolean fromRight) {
            learn(told, fromRight);
            int n = line.size;
            lay(0, turned ? END : BEGIN);
            for (int i = 0; i < n; i++) {
                lay(i + 1, line.signs[turned ? n - 1 - i : i]);
            }
            lay(n + 1, turned ? BEGIN : END);
            cut(n + 2);
            for (int q = parted + 1; q <= size; q++) {
                fillParts(q);
            }
        }

        boolean isSentence(Words words, int length) {
            for (int i = 0; i < length; i++) {
                lay(i, words.word[i]);
            }
            cut(length);
            return yieldsWhole(grammar.start, 0, length);
        }

        private void lay(int index, int token) {
            if (index < size && tokens[index] == token) {
                return;
            }
            cut(index);
            push(token);
        }

        private void cut(int length) {
            if (length >= size) {
                return;
            }
            size = length;
            parted = Math.min(parted, length);
            for (int t = 0; t < TOKENS; t++) {
                places[t] &= (1 << length) - 1;
            }
        }

        private void push(int token) {
            if (size >= MOST_TOKENS) {
                return;
            }
            tokens[size] = token;
            places[token] |= 1 << size;
            size++;
            fillWhole();
        }

        /** Round on round, as a capital may begin or end with itself, or come of itself alone. */
        private void fillWhole() {
            for (int x = 0; x < OWNERS; x++) {
                whole[x * COLUMNS + size] = 0;
            }
            int changed = 1;
            for (int round = 0; round < MOST_ROUNDS && changed != 0; round++) {
                int stale = changed;
                changed = 0;
                for (int k = 0; k < rules; k++) {
                    if ((round == 0 || (uses[k] & stale) != 0) && addWhole(k)) {
                        changed |= 1 << owners[k];
                    }
                }
            }
        }

        private boolean addWhole(int k) {
            int begins = 1 << size;
            for (int i = sizes[k] - 1; i >= 0 && begins != 0; i--) {
                begins = stepBack(symbols[k * MOST_SYMBOLS + i], begins);
            }
            int cell = owners[k] * COLUMNS + size;
            boolean changed = (begins & ~whole[cell]) != 0;
            whole[cell] |= begins;
            return changed;
        }

        /** Where pieces begin that a symbol yields and that end at one of some columns. */
        private int stepBack(int symbol, int ends) {
            if (symbol < TOKENS) {
                return ends >>> 1 & places[symbol];
            }
            int first = (symbol - TOKENS) * COLUMNS;
            int begins = 0;
            for (int q = 0; q < COLUMNS && ends >>> q != 0; q++) {
                if ((ends >>> q & 1) != 0) {
                    begins |= whole[first + q];
                }
            }
            return begins;
        }

        private void fillParts(int q) {
            for (int x = 0; x < OWNERS; x++) {
                boolean something = x == FRAME || facts.yieldsSomething(x);
                int cell = x * COLUMNS + q;
                begun[cell] = something ? 1 << q : 0;
                ending[cell] = something ? q : FAR;
                within[cell] = something ? q : FAR;
            }
            int changed = 1;
            for (int round = 0; round < MOST_ROUNDS && changed != 0; round++) {
                int stale = changed;
                changed = 0;
                for (int k = 0; k < rules; k++) {
                    if ((round == 0 || (uses[k] & stale) != 0) && addParts(k, q)) {
                        changed |= 1 << owners[k];
                    }
                }
            }
            parted = q;
        }

        /**
         * From its end on, an ALTERNATIVE is read twice: exactly up to the column, for what ends there, and with what
         * is left open behind the column, for what begins or goes through there.
         */
        private boolean addParts(int k, int q) {
            int here = 1 << q;
            int exact = here;
            int open = here;
            int end = q;
            int in = q;
            for (int i = sizes[k] - 1; i >= 0; i--) {
                int symbol = symbols[k * MOST_SYMBOLS + i];
                end = Math.min(end, leastEnd(symbol, exact));
                in = Math.min(in, leastEnd(symbol, open));
                exact = stepBack(symbol, exact);
                open = stepBack(symbol, open) | here;
                if (symbol >= TOKENS) {
                    in = Math.min(in, within[(symbol - TOKENS) * COLUMNS + q]);
                    open |= begun[(symbol - TOKENS) * COLUMNS + q];
                }
            }
            int cell = owners[k] * COLUMNS + q;
            boolean changed = (open & ~begun[cell]) != 0 || end < ending[cell] || in < within[cell];
            begun[cell] |= open;
            ending[cell] = Math.min(ending[cell], end);
            within[cell] = Math.min(within[cell], in);
            return changed;
        }

        /** The least begin of a piece that is an end of what a symbol yields and ends at one of some columns. */
        private int leastEnd(int symbol, int ends) {
            if (symbol < TOKENS) {
                return lowest(ends | ends >>> 1 & places[symbol]);
            }
            int first = (symbol - TOKENS) * COLUMNS;
            int least = FAR;
            for (int q = 0; q < COLUMNS && ends >>> q != 0; q++) {
                if ((ends >>> q & 1) != 0) {
                    least = Math.min(least, ending[first + q]);
                }
            }
            return least;
        }

        /** The lowest bit's number (32 without one: behind all columns). */
        private static int lowest(int bits) {
            return Integer.bitCount((bits & -bits) - 1);
        }

        boolean yieldsWhole(int capital, int i, int j) {
            return (whole[capital * COLUMNS + j] >>> i & 1) != 0;
        }

        boolean yieldsPart(int capital, int sort, int i, int j) {
            int cell = capital * COLUMNS + j;
            if (sort == 0) {
                return (whole[cell] >>> i & 1) != 0;
            }
            if (sort == 1) {
                return (begun[cell] >>> i & 1) != 0;
            }
            return sort == 2 ? ending[cell] <= i : within[cell] <= i;
        }

        /** The least i by which (i, j) FITS. */
        int leastFitting(int j) {
            return within[FRAME * COLUMNS + j];
        }

        /** The greatest j by which (i, j) FITS. */
        int greatestFitting(int i) {
            int j = i;
            while (j < size && leastFitting(j + 1) <= i) {
                j++;
            }
            return j;
        }

        /** NONE: no PIECE that FITS has place p. */
        int beginOfLongestWith(int p) {
            int best = NONE;
            int most = 0;
            for (int i = 0; i <= p; i++) {
                int j = greatestFitting(i);
                if (j > p && j - i > most) {
                    most = j - i;
                    best = i;
                }
            }
            return best;
        }

        /** What may stand behind a PIECE that FITS: signs, or the edge that is behind. */
        int followers(int i, int j, int edge) {
            if (i < j && tokens[j - 1] == edge) {
                return 0;
            }
            int bits = 0;
            for (int s = 0; s <= SIGNS; s++) {
                cut(j);
                push(s == SIGNS ? edge : s);
                fillParts(j + 1);
                if (leastFitting(j + 1) <= i) {
                    bits |= s == SIGNS ? EDGE_BIT : 1 << s;
                }
            }
            return bits;
        }

        int signsOfSentences() {
            return facts.inside[grammar.start];
        }
    }

    /** How many CHANGES a line needs at least. */
    private static final class Distance {
        private static final int SIDE = MOST_SIGNS + 1;

        /** Of capital, end and begin of a piece: CHANGES that make it something that the capital yields. */
        final int[] costs = new int[CAPITALS * SIDE * SIDE];
        /** Of a begin: CHANGES for what is behind, of an ALTERNATIVE that is read from its end on. */
        final int[] best = new int[SIDE];

        int measure(Chart chart, Line line) {
            for (int q = 0; q <= line.size; q++) {
                fillColumn(chart, line, q);
            }
            return costs[cell(chart.grammar.start, line.size)];
        }

        private static int cell(int capital, int q) {
            return (capital * SIDE + q) * SIDE;
        }

        private void fillColumn(Chart chart, Line line, int q) {
            for (int x = 0; x < CAPITALS; x++) {
                for (int p = 0; p <= q; p++) {
                    costs[cell(x, q) + p] = FAR;
                }
            }
            int changed = 1;
            for (int round = 0; round < MOST_ROUNDS && changed != 0; round++) {
                int stale = changed;
                changed = 0;
                for (int k = 0; k < chart.rules; k++) {
                    boolean due = round == 0 || (chart.uses[k] & stale) != 0;
                    if (due && chart.owners[k] < CAPITALS && addCosts(chart, line, k, q)) {
                        changed |= 1 << chart.owners[k];
                    }
                }
            }
        }

        private boolean addCosts(Chart chart, Line line, int k, int q) {
            boolean isEmpty = chart.sizes[k] == 0;
            for (int p = 0; p <= q; p++) {
                best[p] = p == q || isEmpty ? q - p : FAR;
            }
            for (int i = chart.sizes[k] - 1; i >= 0; i--) {
                int symbol = chart.symbols[k * MOST_SYMBOLS + i];
                if (symbol < TOKENS) {
                    stepSign(symbol, line, q);
                } else {
                    stepCapital(symbol - TOKENS, q);
                }
            }
            int first = cell(chart.owners[k], q);
            boolean changed = false;
            for (int p = 0; p <= q; p++) {
                if (best[p] < costs[first + p]) {
                    costs[first + p] = best[p];
                    changed = true;
                }
            }
            return changed;
        }

        /** From the least begin on, as each looks only at those behind it, which are still the old ones. */
        private void stepCapital(int x, int q) {
            for (int p = 0; p <= q; p++) {
                int least = FAR;
                int cost = cell(x, p) + p;
                for (int r = p; r <= q; r++) {
                    least = Math.min(least, best[r] + costs[cost]);
                    cost += SIDE;
                }
                best[p] = least;
            }
        }

        private void stepSign(int sign, Line line, int q) {
            for (int p = 0; p <= q; p++) {
                int least = Math.min(FAR, best[p] + 1);
                int spared = 0;
                for (int r = p + 1; r <= q; r++) {
                    if (line.signs[r - 1] == sign) {
                        spared = 1;
                    }
                    least = Math.min(least, best[r] + r - p - spared);
                }
                best[p] = least;
            }
        }
    }

    /** PIECES that are told, and the MATES that lead them. */
    private static final class Report {
        final int[] begins = new int[MOST_PLACES];
        final int[] ends = new int[MOST_PLACES];
        int size;
        /** Of a place: where its MATE is, 0 without one. */
        final int[] mates = new int[MOST_PLACES];
        final int[] waiting = new int[MOST_SIGNS];

        private void add(int i, int j) {
            if (size < MOST_PLACES) {
                begins[size] = i;
                ends[size] = j;
                size++;
            }
        }

        void fromLeft(Chart chart, boolean byMates) {
            size = 0;
            int p = 0;
            for (int j = 1; j <= chart.size; j++) {
                if (j > p && chart.leastFitting(j) > p) {
                    add(chart.leastFitting(j) - 1, j);
                    p = byMates ? placeBehindMate(j) : j;
                }
            }
        }

        void fromRight(Chart chart) {
            size = 0;
            int q = chart.size;
            for (int told = 0; told < MOST_PLACES && chart.leastFitting(q) > 0; told++) {
                int i = chart.leastFitting(q) - 1;
                add(i, chart.greatestFitting(i) + 1);
                q = i;
            }
            turn(begins);
            turn(ends);
        }

        private void turn(int[] places) {
            for (int k = 0; k < size / 2; k++) {
                int other = size - 1 - k;
                int place = places[k];
                places[k] = places[other];
                places[other] = place;
            }
        }

        void leastOnes(Chart chart) {
            size = 0;
            for (int j = 1; j <= chart.size; j++) {
                int i = chart.leastFitting(j) - 1;
                if (i >= 0 && chart.leastFitting(j - 1) <= i) {
                    add(i, j);
                }
            }
        }

        void findMates(Desk desk) {
            for (int p = 0; p < MOST_PLACES; p++) {
                mates[p] = 0;
            }
            int waits = 0;
            for (int p = 1; p <= desk.line.size; p++) {
                int kind = kindOf(desk, desk.line.signs[p - 1]);
                if (kind == NONE) {
                    continue;
                }
                if (kind % 2 == 0) {
                    waiting[waits] = p;
                    waits++;
                    continue;
                }
                int w = latestOfKind(desk, kind - 1, waits);
                if (w != NONE) {
                    mates[p] = waiting[w];
                    mates[waiting[w]] = p;
                    waits = w;
                }
            }
        }

        private int latestOfKind(Desk desk, int kind, int waits) {
            for (int w = waits - 1; w >= 0; w--) {
                if (kindOf(desk, desk.line.signs[waiting[w] - 1]) == kind) {
                    return w;
                }
            }
            return NONE;
        }

        /** 2 times a pair's number, and 1 if the sign is the closing one; NONE: no bracket. */
        private static int kindOf(Desk desk, int sign) {
            for (int k = 0; k < 2 * desk.pairs; k++) {
                if (desk.pairSigns[k] == sign) {
                    return k;
                }
            }
            return NONE;
        }

        private int placeBehindMate(int j) {
            for (int p = Math.min(j, MOST_PLACES) - 1; p >= 1; p--) {
                if (mates[p] >= j) {
                    return mates[p] + 1;
                }
            }
            return j;
        }
    }

    /** Rows of a few signs, numbered by the alphabet. */
    private static final class Words {
        final int[] letters = new int[SIGNS];
        int count;
        final int[] word = new int[MOST_LETTERS];

        void useLetters(int bits) {
            count = 0;
            for (int s = 0; s < SIGNS; s++) {
                if ((bits >> s & 1) != 0) {
                    letters[count] = s;
                    count++;
                }
            }
        }

        int howMany(int length) {
            int all = 1;
            for (int k = 0; k < length; k++) {
                all *= count;
            }
            return all;
        }

        void spell(int number, int length) {
            int rest = number;
            for (int k = length - 1; k >= 0; k--) {
                if (count > 0) {
                    word[k] = letters[rest % count];
                    rest /= count;
                }
            }
        }
    }
}
