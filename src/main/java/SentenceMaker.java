import java.util.Arrays;

/**
 * A maker of test sentences from a small grammar that is told as a text.
 *
 * Nothing is allocated after the constructor: every analysis keeps rows of its own and fills them anew
 * when the grammar has another version than the one they were made of.
 */
public final class SentenceMaker {
    public static final int NONE = -1;

    private static final int SYMBOLS = 8;
    private static final int LETTERS = 16;
    private static final int MOST_RULES = 16;
    private static final int MOST_SIGNS = 4;
    private static final int TAPE = 400;
    private static final int FED = 20;
    private static final int HISTORY = 8;
    private static final int MOST_COST = 200;
    private static final int MOST_TEXT = 16;
    private static final int MOST_MADE = 24;

    /**
     * Signs and ends of rows share one numbering, so that one table serves both: symbols 0 to 7,
     * letters 16 to 31, and from 32 on what is left of a rule's row from some place on.
     */
    private static final int FIRST_LETTER = 16;
    private static final int FIRST_REST = 32;
    private static final int CODES = 96;

    private static final int FINE = 0;
    private static final int BAD_NUMBER = 1;
    private static final int NOT_TOLD = 2;
    private static final int SO_ALREADY = 3;
    private static final int NO_LETTER = 4;
    private static final int NO_SENTENCE = 5;
    private static final int NOTHING = 6;
    private static final int FAULTY = 7;

    private final int[] tape = new int[TAPE];
    private int taped;
    private int latest;
    private int faultKind = NONE;
    private int faultPlace = NONE;

    private final Grammar grammar = new Grammar();
    private final Grammar[] history = new Grammar[HISTORY];
    private int historyTop;
    private int undoable;

    private final Reader reader = new Reader();
    private final Sets sets = new Sets(grammar);
    private final Cheapest cheapest = new Cheapest(grammar);
    private final Pairs pairs = new Pairs(grammar, cheapest);
    private final Cover taken = new Cover(pairs, sets);
    private final TreeCounts counts = new TreeCounts(grammar);
    private final Chart chart = new Chart(grammar, sets);
    private final Ways waysOfText = new Ways(grammar, chart);
    private final Shrinker shrinker = new Shrinker(grammar, sets, chart);

    public SentenceMaker() {
        for (int i = 0; i < HISTORY; i++) {
            history[i] = new Grammar();
        }
    }

    public int status() {
        return latest;
    }

    public int feed(int a, int b, int c, int d, int e) {
        if (taped + FED > TAPE) {
            return NONE;
        }
        feedBytes(a);
        feedBytes(b);
        feedBytes(c);
        feedBytes(d);
        feedBytes(e);
        return taped;
    }

    public int load(int n) {
        if (n < 0 || n > taped) {
            return refuse(BAD_NUMBER);
        }
        reader.read(tape, n);
        taped = 0;
        faultKind = reader.kind;
        faultPlace = reader.place;
        if (reader.kind != 0) {
            return refuse(FAULTY);
        }
        remember();
        grammar.copyFrom(reader.draft);
        return answer(grammar.count);
    }

    public int fault(int what) {
        if (what == 0) {
            return faultKind;
        }
        return what == 1 ? faultPlace : NONE;
    }

    public int turn(int rule, boolean on) {
        if (!grammar.hasRule(rule)) {
            return refuse(NOT_TOLD);
        }
        if (grammar.isOn(rule) == on) {
            return refuse(SO_ALREADY);
        }
        remember();
        grammar.turnOver(rule);
        return answer(Integer.bitCount(grammar.on));
    }

    public int weigh(int rule, int weight) {
        if (weight < 0 || weight > 9) {
            return refuse(BAD_NUMBER);
        }
        if (!grammar.hasRule(rule)) {
            return refuse(NOT_TOLD);
        }
        int before = grammar.weights[rule];
        if (before == weight) {
            return refuse(SO_ALREADY);
        }
        remember();
        grammar.setWeight(rule, weight);
        return answer(before);
    }

    public int start(int symbol) {
        int why = whyNoSymbol(symbol);
        if (why != FINE) {
            return refuse(why);
        }
        int before = grammar.root;
        if (before == symbol) {
            return refuse(SO_ALREADY);
        }
        remember();
        grammar.setRoot(symbol);
        return answer(before);
    }

    public int undo() {
        if (undoable == 0) {
            return refuse(NOTHING);
        }
        historyTop = (historyTop + HISTORY - 1) % HISTORY;
        undoable--;
        grammar.copyFrom(history[historyTop]);
        return answer(undoable);
    }

    public int many(int what) {
        switch (what) {
            case 0:
                return answer(grammar.count);
            case 1:
                return answer(grammar.on);
            case 2:
                return answer(grammar.root);
            case 3:
                return answer(grammar.told);
            case 8:
                preparePairs();
                return answer(pairs.count);
            case 9:
                prepareCover();
                return answer(taken.count);
            case 10:
                return answer(undoable);
            default:
                return manyOfSets(what);
        }
    }

    public int rule(int rule, int what) {
        if (what < 0 || what > 3) {
            return refuse(BAD_NUMBER);
        }
        if (!grammar.hasRule(rule)) {
            return refuse(NOT_TOLD);
        }
        switch (what) {
            case 0:
                return answer(grammar.symbols[rule]);
            case 1:
                return answer(grammar.sizes[rule]);
            case 2:
                return answer(grammar.weights[rule]);
            default:
                return answer(grammar.isOn(rule) ? 1 : 0);
        }
    }

    public int sign(int rule, int i) {
        if (i < 0) {
            return refuse(BAD_NUMBER);
        }
        if (!grammar.hasRule(rule)) {
            return refuse(NOT_TOLD);
        }
        if (i >= grammar.sizes[rule]) {
            return refuse(NOTHING);
        }
        return answer(grammar.signAt(rule, i));
    }

    public int ends(int symbol, int what) {
        int why = what < 0 || what > 1 ? BAD_NUMBER : whyNoSymbol(symbol);
        if (why != FINE) {
            return refuse(why);
        }
        sets.prepare();
        return answer(what == 0 ? sets.firsts[symbol] : sets.lasts[symbol]);
    }

    public int beside(int letter) {
        if (letter < NONE || letter >= LETTERS) {
            return refuse(BAD_NUMBER);
        }
        sets.prepare();
        return answer(letter == NONE ? sets.firsts[grammar.root] : sets.behind[letter]);
    }

    public int yields(int symbol, int what) {
        int why = what < 0 || what > 3 ? BAD_NUMBER : whyNoYield(symbol);
        if (why != FINE) {
            return refuse(why);
        }
        switch (what) {
            case 0:
                return answer(cheapest.yieldCost(symbol));
            case 1:
                return answer(cheapest.yieldRules(symbol));
            case 2:
                return answer(cheapest.made[symbol].size);
            default:
                return answer(cheapest.yieldRule(symbol));
        }
    }

    public int yielded(int symbol, int i) {
        int why = i < 0 ? BAD_NUMBER : whyNoYield(symbol);
        return why != FINE ? refuse(why) : letterOf(cheapest.made[symbol], i);
    }

    public int context(int symbol, int what) {
        int why = what < 0 || what > 5 ? BAD_NUMBER : whyNoContext(symbol);
        if (why != FINE) {
            return refuse(why);
        }
        switch (what) {
            case 0:
                return answer(cheapest.contextCost(symbol));
            case 1:
                return answer(cheapest.contextRules(symbol));
            case 2:
                return answer(cheapest.lefts[symbol].size);
            case 3:
                return answer(cheapest.rights[symbol].size);
            case 4:
                return answer(cheapest.contextRule(symbol));
            default:
                return answer(cheapest.contextPlace(symbol));
        }
    }

    public int around(int symbol, boolean right, int i) {
        int why = i < 0 ? BAD_NUMBER : whyNoContext(symbol);
        if (why != FINE) {
            return refuse(why);
        }
        return letterOf(right ? cheapest.rights[symbol] : cheapest.lefts[symbol], i);
    }

    public int pair(int pair, int what) {
        int why = what < 0 || what > 5 ? BAD_NUMBER : whyNoPair(pair);
        if (why != FINE) {
            return refuse(why);
        }
        switch (what) {
            case 0:
                return answer(pairs.firstRule(pair));
            case 1:
                return answer(pairs.placeOf(pair));
            case 2:
                return answer(pairs.secondRule(pair));
            case 3:
                return answer(pairs.costs[pair]);
            case 4:
                return answer(pairs.spell(pair).size);
            default:
                return answer(pairs.countHad(pair));
        }
    }

    public int shown(int pair, int i) {
        int why = i < 0 ? BAD_NUMBER : whyNoPair(pair);
        return why != FINE ? refuse(why) : letterOf(pairs.spell(pair), i);
    }

    public int pairOf(int rule, int place, int other) {
        if (place < 0) {
            return refuse(BAD_NUMBER);
        }
        if (!grammar.hasRule(rule) || !grammar.hasRule(other)) {
            return refuse(NOT_TOLD);
        }
        preparePairs();
        int found = place < MOST_SIGNS ? pairs.numberOf(rule, place, other) : NONE;
        return found == NONE ? refuse(NOTHING) : answer(found);
    }

    public int has(int pair, int other) {
        int why = pair < 0 || other < 0 ? BAD_NUMBER : Math.max(whyNoPair(pair), whyNoPair(other));
        if (why != FINE) {
            return refuse(why);
        }
        return answer(pairs.includes(pair, other) ? 1 : 0);
    }

    public int cover(int k, int what) {
        if (k < 0 || what < 0 || what > 4) {
            return refuse(BAD_NUMBER);
        }
        prepareCover();
        if (k >= taken.count) {
            return refuse(NOTHING);
        }
        int made = taken.chosen[k];
        switch (what) {
            case 0:
                return answer(made);
            case 1:
                return answer(pairs.spell(made).size);
            case 2:
                return answer(pairs.countHad(made));
            case 3:
                return answer(taken.countAlone(made));
            default:
                sets.prepare();
                return answer(taken.countSpoilt(made));
        }
    }

    public int by(int pair) {
        int why = whyNoPair(pair);
        if (why != FINE) {
            return refuse(why);
        }
        prepareCover();
        int first = taken.firstHaving(pair);
        return first == NONE ? refuse(NOTHING) : answer(first);
    }

    public int wrong(int k, int i, int what) {
        if (k < 0 || i < 0 || what < 0 || what > 1) {
            return refuse(BAD_NUMBER);
        }
        prepareCover();
        sets.prepare();
        int found = k < taken.count ? taken.findSpoilt(taken.chosen[k], i) : NONE;
        if (found == NONE) {
            return refuse(NOTHING);
        }
        return answer(what == 0 ? found / LETTERS : found % LETTERS);
    }

    public int foretells(int symbol, int letter) {
        int why = letter < 0 || letter >= LETTERS ? BAD_NUMBER : whyNoSymbol(symbol);
        if (why != FINE) {
            return refuse(why);
        }
        sets.prepare();
        return answer(sets.rulesBegunBy(symbol, letter));
    }

    public int conflicts() {
        sets.prepare();
        return answer(sets.countConflicts());
    }

    public int bound() {
        preparePairs();
        return answer(taken.countApart());
    }

    public long trees(int symbol, int n) {
        int why = n < 1 || n > MOST_MADE ? BAD_NUMBER : whyNoSymbol(symbol);
        if (why != FINE) {
            return refuse(why);
        }
        latest = FINE;
        counts.prepare(n);
        return counts.of(symbol, n);
    }

    public int tree(int symbol, int n, int i, int at) {
        int why = at < 0 ? BAD_NUMBER : whyNoTree(symbol, n, i);
        if (why != FINE) {
            return refuse(why);
        }
        counts.pick(symbol, n, i);
        return at < counts.letterCount ? answer(counts.letters[at]) : refuse(NOTHING);
    }

    public int treeRule(int symbol, int n, int i, int k) {
        int why = k < 0 ? BAD_NUMBER : whyNoTree(symbol, n, i);
        if (why != FINE) {
            return refuse(why);
        }
        counts.pick(symbol, n, i);
        return k < counts.ruleCount ? answer(counts.rules[k]) : refuse(NOTHING);
    }

    public long number(int n) {
        int why = whyNoSentence(n);
        if (why != FINE) {
            return refuse(why);
        }
        latest = FINE;
        counts.prepare(n);
        return counts.ownNumber(chart);
    }

    public int ways(int n) {
        int why = whyNoText(n);
        if (why != FINE) {
            return refuse(why);
        }
        holdTape(n);
        return answer(waysOfText.count());
    }

    public int parse(int n) {
        int why = whyNoSentence(n);
        return why != FINE ? refuse(why) : answer(chart.nodeCount);
    }

    public int parsed(int n, int i) {
        int why = i < 0 ? BAD_NUMBER : whyNoSentence(n);
        if (why != FINE) {
            return refuse(why);
        }
        return i < chart.nodeCount ? answer(chart.nodeRules[i]) : refuse(NOTHING);
    }

    public int shrink(int n, int rule) {
        int why = whyNotShrunk(n, rule);
        if (why != FINE) {
            return refuse(why);
        }
        shrinker.run(tape, n, rule);
        return answer(shrinker.size);
    }

    public int shrunk(int n, int rule, int i) {
        int why = i < 0 ? BAD_NUMBER : whyNotShrunk(n, rule);
        if (why != FINE) {
            return refuse(why);
        }
        shrinker.run(tape, n, rule);
        return i < shrinker.size ? answer(shrinker.text[i]) : refuse(NOTHING);
    }

    public int drop(int n) {
        if (n < 0 || n > taped) {
            return refuse(BAD_NUMBER);
        }
        taped -= n;
        return answer(taped);
    }

    private int refuse(int why) {
        latest = why;
        return NONE;
    }

    private int answer(int value) {
        latest = FINE;
        return value;
    }

    private int letterOf(Letters letters, int i) {
        return i < letters.size ? answer(letters.at(i)) : refuse(NOTHING);
    }

    private void feedBytes(int word) {
        for (int shift = 24; shift >= 0; shift -= 8) {
            tape[taped] = word >>> shift & 255;
            taped++;
        }
    }

    private void remember() {
        history[historyTop].copyFrom(grammar);
        historyTop = (historyTop + 1) % HISTORY;
        undoable = Math.min(undoable + 1, HISTORY);
    }

    private int manyOfSets(int what) {
        sets.prepare();
        switch (what) {
            case 4:
                return answer(sets.good);
            case 5:
                return answer(sets.reached);
            case 6:
                return answer(sets.used);
            case 7:
                return answer(sets.usedLetters);
            default:
                return refuse(BAD_NUMBER);
        }
    }

    private void preparePairs() {
        cheapest.prepare();
        pairs.prepare();
    }

    private void prepareCover() {
        preparePairs();
        taken.prepare();
    }

    private int whyNoSymbol(int symbol) {
        if (symbol < 0 || symbol >= SYMBOLS) {
            return BAD_NUMBER;
        }
        return grammar.isTold(symbol) ? FINE : NOT_TOLD;
    }

    private int whyNoYield(int symbol) {
        int why = whyNoSymbol(symbol);
        if (why != FINE) {
            return why;
        }
        cheapest.prepare();
        return cheapest.hasYield(symbol) ? FINE : NOTHING;
    }

    private int whyNoContext(int symbol) {
        int why = whyNoSymbol(symbol);
        if (why != FINE) {
            return why;
        }
        cheapest.prepare();
        return cheapest.hasContext(symbol) ? FINE : NOTHING;
    }

    private int whyNoPair(int pair) {
        if (pair < 0) {
            return BAD_NUMBER;
        }
        preparePairs();
        return pair < pairs.count ? FINE : NOTHING;
    }

    private int whyNoTree(int symbol, int n, int i) {
        int why = n < 1 || n > MOST_MADE || i < 0 ? BAD_NUMBER : whyNoSymbol(symbol);
        if (why != FINE) {
            return why;
        }
        counts.prepare(n);
        return i < counts.of(symbol, n) ? FINE : NOTHING;
    }

    private boolean canBeText(int n) {
        return n >= 1 && n <= MOST_TEXT && n <= taped;
    }

    private int whyNoText(int n) {
        if (!canBeText(n)) {
            return BAD_NUMBER;
        }
        for (int i = 0; i < n; i++) {
            if (tape[i] < 'a' || tape[i] > 'p') {
                return NO_LETTER;
            }
        }
        return FINE;
    }

    private void holdTape(int n) {
        sets.prepare();
        chart.hold(tape, 'a', n);
    }

    private int whyNoSentence(int n) {
        int why = whyNoText(n);
        if (why != FINE) {
            return why;
        }
        holdTape(n);
        if (!chart.isSentence()) {
            return NO_SENTENCE;
        }
        chart.buildOwnTree();
        return FINE;
    }

    private int whyNotShrunk(int n, int rule) {
        if (!canBeText(n)) {
            return BAD_NUMBER;
        }
        if (!grammar.hasRule(rule)) {
            return NOT_TOLD;
        }
        if (whyNoText(n) != FINE) {
            return NO_LETTER;
        }
        if (shrinker.isDone(tape, n, rule)) {
            return FINE;
        }
        return whyNoSentence(n) == FINE && chart.ownTreeHas(rule) ? FINE : NO_SENTENCE;
    }

    /** A row of letters; it takes no more than the dearest sentence can have. */
    private static final class Letters {
        final int[] row = new int[MOST_COST];
        int size;

        void clear() {
            size = 0;
        }

        void add(int letter) {
            if (size < MOST_COST) {
                row[size] = letter;
                size++;
            }
        }

        void addAll(Letters more) {
            int fit = Math.min(more.size, MOST_COST - size);
            System.arraycopy(more.row, 0, row, size, fit);
            size += fit;
        }

        int at(int i) {
            return i >= 0 && i < size ? row[i] : NONE;
        }
    }

    /** The rules and START; its version grows with every change, so that analyses know when they are stale. */
    private static final class Grammar {
        int version;
        int count;
        int on;
        int told;
        int root;
        final int[] symbols = new int[MOST_RULES];
        final int[] sizes = new int[MOST_RULES];
        final int[] weights = new int[MOST_RULES];
        final int[] signs = new int[MOST_RULES * MOST_SIGNS];
        /** Symbols, each behind all to which it comes by rows of one symbol alone. */
        final int[] order = new int[SYMBOLS];

        Grammar() {
            for (int symbol = 0; symbol < SYMBOLS; symbol++) {
                order[symbol] = symbol;
            }
        }

        void clear() {
            version++;
            count = 0;
            on = 0;
            told = 0;
            root = 0;
        }

        void copyFrom(Grammar other) {
            version++;
            count = other.count;
            on = other.on;
            told = other.told;
            root = other.root;
            System.arraycopy(other.symbols, 0, symbols, 0, MOST_RULES);
            System.arraycopy(other.sizes, 0, sizes, 0, MOST_RULES);
            System.arraycopy(other.weights, 0, weights, 0, MOST_RULES);
            System.arraycopy(other.signs, 0, signs, 0, MOST_RULES * MOST_SIGNS);
            System.arraycopy(other.order, 0, order, 0, SYMBOLS);
        }

        boolean hasRule(int rule) {
            return rule >= 0 && rule < count;
        }

        boolean isOn(int rule) {
            return (on >> rule & 1) != 0;
        }

        boolean isTold(int symbol) {
            return (told >> symbol & 1) != 0;
        }

        void turnOver(int rule) {
            version++;
            on ^= 1 << rule;
        }

        void setWeight(int rule, int weight) {
            version++;
            weights[rule] = weight;
        }

        void setRoot(int symbol) {
            version++;
            root = symbol;
        }

        int signAt(int rule, int place) {
            return signs[rule * MOST_SIGNS + place];
        }

        /** Says whether there was room for one more rule. */
        boolean addRule(int symbol) {
            if (count >= MOST_RULES) {
                return false;
            }
            symbols[count] = symbol;
            sizes[count] = 0;
            weights[count] = 1;
            on |= 1 << count;
            count++;
            return true;
        }

        /** Says whether there was room for one more sign in the latest rule. */
        boolean addSign(int sign) {
            int rule = count - 1;
            if (rule < 0 || sizes[rule] >= MOST_SIGNS) {
                return false;
            }
            signs[rule * MOST_SIGNS + sizes[rule]] = sign;
            sizes[rule]++;
            return true;
        }

        /** The code of a whole row; a row of one sign is that sign. */
        int rowCode(int rule) {
            return sizes[rule] == 1 ? signs[rule * MOST_SIGNS] : FIRST_REST + rule * MOST_SIGNS;
        }

        /** The code of what stands behind a place of a row; the place is not the last one. */
        int restCode(int rule, int place) {
            int next = rule * MOST_SIGNS + place + 1;
            return place + 2 == sizes[rule] ? signs[next] : FIRST_REST + next;
        }

        /** The symbols in a row, as bits. */
        int symbolsIn(int rule) {
            int found = 0;
            for (int place = 0; place < sizes[rule]; place++) {
                int sign = signAt(rule, place);
                found |= sign < SYMBOLS ? 1 << sign : 0;
            }
            return found;
        }

        /** Puts the symbols in order; says whether there was one, that is, no ring. */
        boolean findOrder() {
            int placed = 0;
            int behind = 0;
            for (int round = 0; round < SYMBOLS && placed < SYMBOLS; round++) {
                for (int symbol = 0; symbol < SYMBOLS; symbol++) {
                    if ((behind >> symbol & 1) == 0 && (aloneIn(symbol) & ~behind) == 0) {
                        order[placed] = symbol;
                        placed++;
                        behind |= 1 << symbol;
                    }
                }
            }
            return placed == SYMBOLS;
        }

        /** The symbols that are a row of a symbol alone, as bits. */
        private int aloneIn(int symbol) {
            int found = 0;
            for (int rule = 0; rule < count; rule++) {
                if (symbols[rule] == symbol && sizes[rule] == 1) {
                    found |= symbolsIn(rule);
                }
            }
            return found;
        }
    }

    /** Reads a grammar's text byte by byte into a draft. */
    private static final class Reader {
        private static final int AT_LINE = 0;
        private static final int AT_EQUALS = 1;
        private static final int AT_ROW = 2;
        private static final int IN_ROW = 3;
        private static final int AT_WEIGHT = 4;
        private static final int AFTER_WEIGHT = 5;

        private static final int UNKNOWN = 1;
        private static final int MISPLACED = 2;
        private static final int TWICE = 3;
        private static final int FIFTH_SIGN = 4;
        private static final int TOO_MANY_RULES = 5;
        private static final int UNTOLD = 6;
        private static final int RING = 7;

        final Grammar draft = new Grammar();
        int kind;
        int place;
        private int state;
        private int symbol;

        void read(int[] bytes, int n) {
            draft.clear();
            state = AT_LINE;
            kind = 0;
            place = NONE;
            for (int i = 0; i < n && kind == 0; i++) {
                kind = step(bytes[i]);
                place = i;
            }
            if (kind == 0) {
                kind = lookAtEnd();
                place = kind == 0 ? NONE : n;
            }
        }

        private int step(int b) {
            if (b == 10 || b == 32) {
                return 0;
            }
            int sign = signOf(b);
            if (sign == NONE && !isMark(b)) {
                return UNKNOWN;
            }
            switch (state) {
                case AT_LINE:
                    return beginLine(sign);
                case AT_EQUALS:
                    return b == '=' ? goTo(AT_ROW) : MISPLACED;
                case AT_ROW:
                    return beginRow(sign);
                case IN_ROW:
                    return sign != NONE ? addSign(sign) : endRow(b, true);
                case AT_WEIGHT:
                    return takeWeight(b);
                default:
                    return endRow(b, false);
            }
        }

        private static int signOf(int b) {
            if (b >= 'A' && b <= 'H') {
                return b - 'A';
            }
            return b >= 'a' && b <= 'p' ? FIRST_LETTER + b - 'a' : NONE;
        }

        private static boolean isMark(int b) {
            return isDigit(b) || b == '=' || b == '|' || b == ';' || b == ':';
        }

        private static boolean isDigit(int b) {
            return b >= '0' && b <= '9';
        }

        private int goTo(int next) {
            state = next;
            return 0;
        }

        private int beginLine(int sign) {
            if (sign == NONE || sign >= FIRST_LETTER) {
                return MISPLACED;
            }
            if (draft.isTold(sign)) {
                return TWICE;
            }
            if (draft.told == 0) {
                draft.setRoot(sign);
            }
            draft.told |= 1 << sign;
            symbol = sign;
            return goTo(AT_EQUALS);
        }

        private int beginRow(int sign) {
            if (sign == NONE) {
                return MISPLACED;
            }
            if (!draft.addRule(symbol)) {
                return TOO_MANY_RULES;
            }
            state = IN_ROW;
            return addSign(sign);
        }

        private int addSign(int sign) {
            return draft.addSign(sign) ? 0 : FIFTH_SIGN;
        }

        private int endRow(int b, boolean mayBeWeighed) {
            switch (b) {
                case '|':
                    return goTo(AT_ROW);
                case ';':
                    return goTo(AT_LINE);
                case ':':
                    return mayBeWeighed ? goTo(AT_WEIGHT) : MISPLACED;
                default:
                    return MISPLACED;
            }
        }

        private int takeWeight(int b) {
            if (!isDigit(b) || draft.count == 0) {
                return MISPLACED;
            }
            draft.setWeight(draft.count - 1, b - '0');
            return goTo(AFTER_WEIGHT);
        }

        private int lookAtEnd() {
            if (state != AT_LINE || draft.count == 0) {
                return MISPLACED;
            }
            int stand = 0;
            for (int rule = 0; rule < draft.count; rule++) {
                stand |= draft.symbolsIn(rule);
            }
            if ((stand & ~draft.told) != 0) {
                return UNTOLD;
            }
            return draft.findOrder() ? 0 : RING;
        }
    }

    /** What can be said of a grammar by sets alone: good, come to, used, FIRST, LAST, BESIDE. */
    private static final class Sets {
        private final Grammar grammar;
        private int madeAt = NONE;
        int good;
        int reached;
        /** Rules that are ON and all of whose symbols are good. */
        int sound;
        int used;
        int usedLetters;
        private final int[] symbolsIn = new int[MOST_RULES];
        final int[] firsts = new int[SYMBOLS];
        final int[] lasts = new int[SYMBOLS];
        final int[] behind = new int[LETTERS];
        final int[] ahead = new int[LETTERS];

        Sets(Grammar grammar) {
            this.grammar = grammar;
        }

        void prepare() {
            if (madeAt == grammar.version) {
                return;
            }
            madeAt = grammar.version;
            for (int rule = 0; rule < grammar.count; rule++) {
                symbolsIn[rule] = grammar.symbolsIn(rule);
            }
            findGood();
            findReached();
            findUsed();
            findFirstsAndLasts();
            findBeside();
        }

        private boolean isSound(int rule) {
            return (sound >> rule & 1) != 0;
        }

        boolean isUsed(int rule) {
            return (used >> rule & 1) != 0;
        }

        private void findGood() {
            good = 0;
            boolean grown = true;
            for (int round = 0; round <= SYMBOLS && grown; round++) {
                int before = good;
                for (int rule = 0; rule < grammar.count; rule++) {
                    if (grammar.isOn(rule) && (symbolsIn[rule] & ~good) == 0) {
                        good |= 1 << grammar.symbols[rule];
                    }
                }
                grown = good != before;
            }
            sound = 0;
            for (int rule = 0; rule < grammar.count; rule++) {
                if (grammar.isOn(rule) && (symbolsIn[rule] & ~good) == 0) {
                    sound |= 1 << rule;
                }
            }
        }

        private boolean comesTo(int rule) {
            return isSound(rule) && (reached >> grammar.symbols[rule] & 1) != 0;
        }

        private void findReached() {
            reached = 1 << grammar.root;
            boolean grown = true;
            for (int round = 0; round <= SYMBOLS && grown; round++) {
                int before = reached;
                for (int rule = 0; rule < grammar.count; rule++) {
                    if (comesTo(rule)) {
                        reached |= symbolsIn[rule];
                    }
                }
                grown = reached != before;
            }
        }

        private void findUsed() {
            used = 0;
            usedLetters = 0;
            for (int rule = 0; rule < grammar.count; rule++) {
                if (comesTo(rule)) {
                    used |= 1 << rule;
                    for (int place = 0; place < grammar.sizes[rule]; place++) {
                        int sign = grammar.signAt(rule, place);
                        usedLetters |= sign >= FIRST_LETTER ? 1 << sign - FIRST_LETTER : 0;
                    }
                }
            }
        }

        private int firstOf(int sign) {
            return sign >= FIRST_LETTER ? 1 << sign - FIRST_LETTER : firsts[sign];
        }

        private int lastOf(int sign) {
            return sign >= FIRST_LETTER ? 1 << sign - FIRST_LETTER : lasts[sign];
        }

        private void findFirstsAndLasts() {
            Arrays.fill(firsts, 0);
            Arrays.fill(lasts, 0);
            boolean grown = true;
            for (int round = 0; round <= SYMBOLS && grown; round++) {
                grown = false;
                for (int rule = 0; rule < grammar.count; rule++) {
                    if (isSound(rule) && growEnds(rule)) {
                        grown = true;
                    }
                }
            }
        }

        private boolean growEnds(int rule) {
            int symbol = grammar.symbols[rule];
            int first = firsts[symbol] | firstOf(grammar.signAt(rule, 0));
            int last = lasts[symbol] | lastOf(grammar.signAt(rule, grammar.sizes[rule] - 1));
            boolean grown = first != firsts[symbol] || last != lasts[symbol];
            firsts[symbol] = first;
            lasts[symbol] = last;
            return grown;
        }

        private void findBeside() {
            Arrays.fill(behind, 0);
            Arrays.fill(ahead, 0);
            for (int rule = 0; rule < grammar.count; rule++) {
                if (isUsed(rule)) {
                    for (int place = 1; place < grammar.sizes[rule]; place++) {
                        join(lastOf(grammar.signAt(rule, place - 1)), firstOf(grammar.signAt(rule, place)));
                    }
                }
            }
        }

        private void join(int left, int right) {
            for (int letter = 0; letter < LETTERS; letter++) {
                if ((left >> letter & 1) != 0) {
                    behind[letter] |= right;
                }
                if ((right >> letter & 1) != 0) {
                    ahead[letter] |= left;
                }
            }
        }

        boolean canFollow(int left, int right) {
            return (behind[left] >> right & 1) != 0;
        }

        boolean canBegin(int letter) {
            return (firsts[grammar.root] >> letter & 1) != 0;
        }

        boolean canEnd(int letter) {
            return (lasts[grammar.root] >> letter & 1) != 0;
        }

        /** The letters that, put in one place of a sentence, spoil it for certain, as bits. */
        int spoilers(Letters sentence, int place) {
            int before = place == 0 ? firsts[grammar.root] : behind[sentence.at(place - 1)];
            int after = place == sentence.size - 1 ? lasts[grammar.root] : ahead[sentence.at(place + 1)];
            return usedLetters & ~(1 << sentence.at(place)) & ~(before & after);
        }

        int rulesBegunBy(int symbol, int letter) {
            int found = 0;
            for (int rule = 0; rule < grammar.count; rule++) {
                if (grammar.symbols[rule] == symbol && isSound(rule)
                        && (firstOf(grammar.signAt(rule, 0)) >> letter & 1) != 0) {
                    found |= 1 << rule;
                }
            }
            return found;
        }

        int countConflicts() {
            int found = 0;
            for (int symbol = 0; symbol < SYMBOLS; symbol++) {
                int once = 0;
                int twice = 0;
                for (int rule = 0; rule < grammar.count; rule++) {
                    if (grammar.symbols[rule] == symbol && isSound(rule)) {
                        int first = firstOf(grammar.signAt(rule, 0));
                        twice |= once & first;
                        once |= first;
                    }
                }
                found += Integer.bitCount(twice);
            }
            return found;
        }
    }

    /**
     * YIELDS and CONTEXTS. Each is held as one key, its cost above its number of rules above what it is made by,
     * so that the lesser key is the one the document prefers. A tree of cost 200 has fewer than 4096 rules:
     * it has at most 399 nodes that are no row of one symbol, each below at most seven that are.
     */
    private static final class Cheapest {
        private static final int NO_KEY = Integer.MAX_VALUE;
        private static final int RULES_BITS = 12;
        private static final int RULES_MASK = 4095;

        private final Grammar grammar;
        private int madeAt = NONE;
        private final int[] yieldKeys = new int[SYMBOLS];
        private final int[] contextKeys = new int[SYMBOLS];
        /** Symbols that have a yield, a context, each behind those of which its own is made. */
        final int[] yieldOrder = new int[SYMBOLS];
        int yieldCount;
        final int[] contextOrder = new int[SYMBOLS];
        int contextCount;
        /** Of a rule that is ON: its weight, letters, yields together; its rules; its symbols without a yield. */
        private final int[] rowCosts = new int[MOST_RULES];
        private final int[] rowRules = new int[MOST_RULES];
        private final int[] rowMissing = new int[MOST_RULES];
        final Letters[] made = new Letters[SYMBOLS];
        final Letters[] lefts = new Letters[SYMBOLS];
        final Letters[] rights = new Letters[SYMBOLS];

        Cheapest(Grammar grammar) {
            this.grammar = grammar;
            for (int symbol = 0; symbol < SYMBOLS; symbol++) {
                made[symbol] = new Letters();
                lefts[symbol] = new Letters();
                rights[symbol] = new Letters();
            }
        }

        void prepare() {
            if (madeAt == grammar.version) {
                return;
            }
            madeAt = grammar.version;
            findYields();
            findContexts();
            yieldCount = orderByKeys(yieldKeys, yieldOrder);
            contextCount = orderByKeys(contextKeys, contextOrder);
            for (int i = 0; i < yieldCount; i++) {
                spellYield(yieldOrder[i]);
            }
            for (int i = 0; i < contextCount; i++) {
                spellContext(contextOrder[i]);
            }
        }

        boolean hasYield(int symbol) {
            return yieldKeys[symbol] != NO_KEY;
        }

        int yieldCost(int symbol) {
            return yieldKeys[symbol] == NO_KEY ? 0 : yieldKeys[symbol] >> RULES_BITS + 4;
        }

        int yieldRules(int symbol) {
            return yieldKeys[symbol] == NO_KEY ? 0 : yieldKeys[symbol] >> 4 & RULES_MASK;
        }

        int yieldRule(int symbol) {
            return yieldKeys[symbol] & 15;
        }

        boolean hasContext(int symbol) {
            return contextKeys[symbol] != NO_KEY;
        }

        int contextCost(int symbol) {
            return contextKeys[symbol] >> RULES_BITS + 6;
        }

        int contextRules(int symbol) {
            return contextKeys[symbol] >> 6 & RULES_MASK;
        }

        int contextRule(int symbol) {
            return symbol == grammar.root ? NONE : contextKeys[symbol] >> 2 & 15;
        }

        int contextPlace(int symbol) {
            return symbol == grammar.root ? NONE : contextKeys[symbol] & 3;
        }

        /** Whether a rule can stand with yields of all its symbols. */
        boolean isWhole(int rule) {
            return grammar.isOn(rule) && rowMissing[rule] == 0;
        }

        int rowCost(int rule) {
            return rowCosts[rule];
        }

        /** Whether a rule can stand in a sentence with all of its symbols but the one in a place being yields. */
        boolean isFrame(int rule, int place) {
            int symbol = grammar.signAt(rule, place);
            int missing = rowMissing[rule] - (hasYield(symbol) ? 0 : 1);
            return missing == 0 && hasContext(grammar.symbols[rule]);
        }

        /** The cost of all that stands about a place of a rule in the cheapest sentence with it. */
        int frameCost(int rule, int place) {
            return contextCost(grammar.symbols[rule]) + rowCosts[rule] - yieldCost(grammar.signAt(rule, place));
        }

        private int frameRules(int rule, int place) {
            return contextRules(grammar.symbols[rule]) + rowRules[rule] - yieldRules(grammar.signAt(rule, place));
        }

        private void findYields() {
            Arrays.fill(yieldKeys, NO_KEY);
            boolean better = true;
            for (int round = 0; round <= SYMBOLS && better; round++) {
                better = false;
                for (int rule = 0; rule < grammar.count; rule++) {
                    if (grammar.isOn(rule) && improveYield(rule)) {
                        better = true;
                    }
                }
            }
        }

        private boolean improveYield(int rule) {
            weighRow(rule);
            if (rowMissing[rule] != 0 || rowCosts[rule] > MOST_COST) {
                return false;
            }
            int symbol = grammar.symbols[rule];
            int key = (rowCosts[rule] << RULES_BITS | rowRules[rule]) << 4 | rule;
            if (key >= yieldKeys[symbol]) {
                return false;
            }
            yieldKeys[symbol] = key;
            return true;
        }

        private void weighRow(int rule) {
            int cost = grammar.weights[rule];
            int rules = 1;
            int missing = 0;
            for (int place = 0; place < grammar.sizes[rule]; place++) {
                int sign = grammar.signAt(rule, place);
                if (sign >= FIRST_LETTER) {
                    cost++;
                } else if (hasYield(sign)) {
                    cost += yieldCost(sign);
                    rules += yieldRules(sign);
                } else {
                    missing++;
                }
            }
            rowCosts[rule] = cost;
            rowRules[rule] = rules;
            rowMissing[rule] = missing;
        }

        private void findContexts() {
            Arrays.fill(contextKeys, NO_KEY);
            contextKeys[grammar.root] = 0;
            boolean better = true;
            for (int round = 0; round <= SYMBOLS && better; round++) {
                better = false;
                for (int rule = 0; rule < grammar.count; rule++) {
                    if (grammar.isOn(rule) && hasContext(grammar.symbols[rule]) && improveContexts(rule)) {
                        better = true;
                    }
                }
            }
        }

        private boolean improveContexts(int rule) {
            boolean better = false;
            for (int place = 0; place < grammar.sizes[rule]; place++) {
                int symbol = grammar.signAt(rule, place);
                if (symbol < SYMBOLS && symbol != grammar.root && isFrame(rule, place)
                        && frameCost(rule, place) <= MOST_COST) {
                    int front = frameCost(rule, place) << RULES_BITS | frameRules(rule, place);
                    int key = front << 6 | rule << 2 | place;
                    if (key < contextKeys[symbol]) {
                        contextKeys[symbol] = key;
                        better = true;
                    }
                }
            }
            return better;
        }

        /** What something is made of has a lesser key than it has, so this is an order to make them in. */
        private static int orderByKeys(int[] keys, int[] order) {
            int count = 0;
            for (int symbol = 0; symbol < SYMBOLS; symbol++) {
                if (keys[symbol] != NO_KEY) {
                    int at = count;
                    for (; at > 0 && keys[order[at - 1]] > keys[symbol]; at--) {
                        order[at] = order[at - 1];
                    }
                    order[at] = symbol;
                    count++;
                }
            }
            return count;
        }

        /** Adds what the signs of a row make, from one place to ahead of another, symbols by their yields. */
        void spellPart(int rule, int from, int to, Letters out) {
            for (int place = from; place < to; place++) {
                int sign = grammar.signAt(rule, place);
                if (sign >= FIRST_LETTER) {
                    out.add(sign - FIRST_LETTER);
                } else {
                    out.addAll(made[sign]);
                }
            }
        }

        private void spellYield(int symbol) {
            int rule = yieldRule(symbol);
            made[symbol].clear();
            spellPart(rule, 0, grammar.sizes[rule], made[symbol]);
        }

        private void spellContext(int symbol) {
            Letters left = lefts[symbol];
            Letters right = rights[symbol];
            left.clear();
            right.clear();
            if (symbol != grammar.root) {
                int rule = contextRule(symbol);
                int place = contextPlace(symbol);
                int above = grammar.symbols[rule];
                left.addAll(lefts[above]);
                spellPart(rule, 0, place, left);
                spellPart(rule, place + 1, grammar.sizes[rule], right);
                right.addAll(rights[above]);
            }
        }
    }

    /**
     * PAIRS and what their sentences have. A sentence is a frame (all that stands about a place of a rule)
     * and a row (all below the second rule), so that the sets are kept by frames and rows, not by pairs.
     */
    private static final class Pairs {
        private static final int FRAMES = MOST_RULES * MOST_SIGNS;
        static final int MOST_PAIRS = FRAMES * MOST_RULES;
        static final int WORDS = MOST_PAIRS / 64;

        private final Grammar grammar;
        private final Cheapest cheapest;
        int madeAt = NONE;
        int count;
        private int words;
        /** A triple is its first rule, place and second rule in one number. */
        private final int[] triples = new int[MOST_PAIRS];
        private final int[] numbers = new int[MOST_PAIRS];
        final int[] costs = new int[MOST_PAIRS];
        /** The pairs of a frame follow one another: here is where they begin. */
        private final int[] frameFirsts = new int[FRAMES + 1];
        private final int[] filledFrames = new int[FRAMES];
        private int frameCount;
        private final long[] frames = new long[FRAMES * WORDS];
        private final long[] rows = new long[MOST_RULES * WORDS];
        /** The same the other way about: of a pair the frames and the rows that have it, as bits. */
        private final long[] framesHaving = new long[MOST_PAIRS];
        private final int[] rowsHaving = new int[MOST_PAIRS];
        private final Letters sentence = new Letters();
        private int spelled = NONE;

        Pairs(Grammar grammar, Cheapest cheapest) {
            this.grammar = grammar;
            this.cheapest = cheapest;
        }

        void prepare() {
            if (madeAt == grammar.version) {
                return;
            }
            madeAt = grammar.version;
            spelled = NONE;
            numberPairs();
            words = count + 63 >> 6;
            fillRows();
            fillFrames();
            turnAbout();
        }

        int firstRule(int pair) {
            return triples[pair] >> 6;
        }

        int placeOf(int pair) {
            return triples[pair] >> 4 & 3;
        }

        int secondRule(int pair) {
            return triples[pair] & 15;
        }

        private int frameOf(int pair) {
            return triples[pair] >> 4;
        }

        int numberOf(int rule, int place, int other) {
            return numbers[(rule * MOST_SIGNS + place) * MOST_RULES + other];
        }

        private void numberPairs() {
            Arrays.fill(numbers, NONE);
            count = 0;
            for (int frame = 0; frame < FRAMES; frame++) {
                int rule = frame / MOST_SIGNS;
                int place = frame % MOST_SIGNS;
                frameFirsts[frame] = count;
                if (rule < grammar.count && grammar.isOn(rule) && place < grammar.sizes[rule]
                        && grammar.signAt(rule, place) < SYMBOLS && cheapest.isFrame(rule, place)) {
                    numberSeconds(frame, grammar.signAt(rule, place), cheapest.frameCost(rule, place));
                }
            }
            frameFirsts[FRAMES] = count;
        }

        private void numberSeconds(int frame, int symbol, int about) {
            for (int other = 0; other < grammar.count; other++) {
                if (grammar.symbols[other] == symbol && cheapest.isWhole(other)) {
                    int cost = about + cheapest.rowCost(other);
                    if (cost <= MOST_COST && count < MOST_PAIRS) {
                        int triple = frame * MOST_RULES + other;
                        triples[count] = triple;
                        costs[count] = cost;
                        numbers[triple] = count;
                        count++;
                    }
                }
            }
        }

        private void fillRows() {
            Arrays.fill(rows, 0L);
            int filled = 0;
            for (int i = 0; i < cheapest.yieldCount; i++) {
                int rule = cheapest.yieldRule(cheapest.yieldOrder[i]);
                fillRow(rule);
                filled |= 1 << rule;
            }
            for (int rule = 0; rule < grammar.count; rule++) {
                if (cheapest.isWhole(rule) && (filled >> rule & 1) == 0) {
                    fillRow(rule);
                }
            }
        }

        private void fillRow(int rule) {
            for (int place = 0; place < grammar.sizes[rule]; place++) {
                addYieldAt(rows, rule * WORDS, rule, place);
            }
        }

        private void fillFrames() {
            Arrays.fill(frames, 0L);
            frameCount = 0;
            for (int i = 0; i < cheapest.contextCount; i++) {
                int symbol = cheapest.contextOrder[i];
                for (int frame = 0; frame < grammar.count * MOST_SIGNS; frame++) {
                    if (grammar.symbols[frame / MOST_SIGNS] == symbol && frameCount < FRAMES
                            && frameFirsts[frame] < frameFirsts[frame + 1]) {
                        filledFrames[frameCount] = frame;
                        frameCount++;
                        fillFrame(frame);
                    }
                }
            }
        }

        private void fillFrame(int frame) {
            int rule = frame / MOST_SIGNS;
            int place = frame % MOST_SIGNS;
            int base = frame * WORDS;
            int symbol = grammar.symbols[rule];
            if (symbol != grammar.root) {
                int above = cheapest.contextRule(symbol);
                int abovePlace = cheapest.contextPlace(symbol);
                addBit(frames, base, numberOf(above, abovePlace, rule));
                addWords(frames, base, frames, (above * MOST_SIGNS + abovePlace) * WORDS);
            }
            for (int other = 0; other < grammar.sizes[rule]; other++) {
                if (other != place) {
                    addYieldAt(frames, base, rule, other);
                }
            }
        }

        /** Adds the pairs of which a yield in a place of a rule is the lower part, and those within it. */
        private void addYieldAt(long[] set, int base, int rule, int place) {
            int sign = grammar.signAt(rule, place);
            if (sign < SYMBOLS && cheapest.hasYield(sign)) {
                int below = cheapest.yieldRule(sign);
                addBit(set, base, numberOf(rule, place, below));
                addWords(set, base, rows, below * WORDS);
            }
        }

        private static void addBit(long[] set, int base, int pair) {
            if (pair != NONE) {
                set[base + (pair >> 6)] |= 1L << (pair & 63);
            }
        }

        private void addWords(long[] set, int base, long[] more, int from) {
            for (int w = 0; w < words; w++) {
                set[base + w] |= more[from + w];
            }
        }

        private void turnAbout() {
            Arrays.fill(framesHaving, 0, count, 0L);
            Arrays.fill(rowsHaving, 0, count, 0);
            for (int i = 0; i < frameCount; i++) {
                int frame = filledFrames[i];
                for (int w = 0; w < words; w++) {
                    long word = frames[frame * WORDS + w];
                    for (int left = Long.bitCount(word); left > 0; left--) {
                        framesHaving[(w << 6) + Long.numberOfTrailingZeros(word)] |= 1L << frame;
                        word &= word - 1;
                    }
                }
            }
            for (int rule = 0; rule < grammar.count; rule++) {
                for (int w = 0; w < words; w++) {
                    long word = rows[rule * WORDS + w];
                    for (int left = Long.bitCount(word); left > 0; left--) {
                        rowsHaving[(w << 6) + Long.numberOfTrailingZeros(word)] |= 1 << rule;
                        word &= word - 1;
                    }
                }
            }
        }

        /** Whether a pair is in a sentence about or below the place where that sentence's own pair was put. */
        private boolean isAround(int pair, int other) {
            return (framesHaving[other] >>> frameOf(pair) & 1L) != 0
                    || (rowsHaving[other] >> secondRule(pair) & 1) != 0;
        }

        boolean includes(int pair, int other) {
            return pair == other || isAround(pair, other);
        }

        int countHad(int pair) {
            int frame = frameOf(pair) * WORDS;
            int row = secondRule(pair) * WORDS;
            int found = isAround(pair, pair) ? 0 : 1;
            for (int w = 0; w < words; w++) {
                found += Long.bitCount(frames[frame + w] | rows[row + w]);
            }
            return found;
        }

        /** Lists what a pair's sentence has, in no order; says how many. */
        int listHad(int pair, int[] out) {
            int frame = frameOf(pair) * WORDS;
            int row = secondRule(pair) * WORDS;
            int found = 0;
            for (int w = 0; w < words; w++) {
                long word = frames[frame + w] | rows[row + w];
                for (int left = Long.bitCount(word); left > 0 && found < out.length; left--) {
                    out[found] = (w << 6) + Long.numberOfTrailingZeros(word);
                    found++;
                    word &= word - 1;
                }
            }
            return isAround(pair, pair) ? found : listOne(pair, out, found);
        }

        private static int listOne(int pair, int[] out, int found) {
            if (found >= out.length) {
                return found;
            }
            out[found] = pair;
            return found + 1;
        }

        /** Adds what a pair's sentence has to a set. */
        void addHad(int pair, long[] set) {
            int frame = frameOf(pair) * WORDS;
            int row = secondRule(pair) * WORDS;
            for (int w = 0; w < words && w < set.length; w++) {
                set[w] |= frames[frame + w] | rows[row + w];
            }
            addBit(set, 0, pair);
        }

        /** Lists the pairs whose sentences have a pair, in no order; says how many. */
        int listHolders(int pair, int[] out) {
            long whole = framesHaving[pair];
            int seconds = rowsHaving[pair];
            int found = 0;
            for (int i = 0; i < frameCount && (whole != 0 || seconds != 0); i++) {
                int frame = filledFrames[i];
                if ((whole >>> frame & 1L) != 0) {
                    for (int p = frameFirsts[frame]; p < frameFirsts[frame + 1]; p++) {
                        found = listOne(p, out, found);
                    }
                } else if (seconds != 0) {
                    found = listSeconds(frame, seconds, out, found);
                }
            }
            return isAround(pair, pair) ? found : listOne(pair, out, found);
        }

        private int listSeconds(int frame, int seconds, int[] out, int from) {
            int found = from;
            int rest = seconds;
            for (int left = Integer.bitCount(seconds); left > 0; left--) {
                int number = numbers[frame * MOST_RULES + Integer.numberOfTrailingZeros(rest)];
                rest &= rest - 1;
                found = number == NONE ? found : listOne(number, out, found);
            }
            return found;
        }

        /** The sentence of a pair; it is good until another one is asked for. */
        Letters spell(int pair) {
            if (spelled != pair) {
                spelled = pair;
                int rule = firstRule(pair);
                int place = placeOf(pair);
                int other = secondRule(pair);
                int symbol = grammar.symbols[rule];
                sentence.clear();
                sentence.addAll(cheapest.lefts[symbol]);
                cheapest.spellPart(rule, 0, place, sentence);
                cheapest.spellPart(other, 0, grammar.sizes[other], sentence);
                cheapest.spellPart(rule, place + 1, grammar.sizes[rule], sentence);
                sentence.addAll(cheapest.rights[symbol]);
            }
            return sentence;
        }
    }

    /** COVER, what is WRONG of its sentences, and BOUND. */
    private static final class Cover {
        private final Pairs pairs;
        private final Sets sets;
        private int madeAt = NONE;
        private int boundAt = NONE;
        private int apart;
        int count;
        /** The pairs by which the sentences of the cover are made. */
        final int[] chosen = new int[Pairs.MOST_PAIRS];
        private final int[] gains = new int[Pairs.MOST_PAIRS];
        private final int[] holdings = new int[Pairs.MOST_PAIRS];
        private final int[] had = new int[Pairs.MOST_PAIRS];
        private final int[] holders = new int[Pairs.MOST_PAIRS];
        private final long[] marks = new long[Pairs.WORDS];
        private int open;

        Cover(Pairs pairs, Sets sets) {
            this.pairs = pairs;
            this.sets = sets;
        }

        void prepare() {
            if (madeAt == pairs.madeAt) {
                return;
            }
            madeAt = pairs.madeAt;
            choose();
            leaveOut();
        }

        /**
         * Gains only fall, so at each level, from the highest down, one walk over the pairs takes in their order
         * all that are the best then: whoever was passed by has fallen below the level for good.
         */
        private void choose() {
            int level = 0;
            for (int pair = 0; pair < pairs.count; pair++) {
                gains[pair] = pairs.countHad(pair);
                level = Math.max(level, gains[pair]);
            }
            Arrays.fill(marks, 0L);
            count = 0;
            open = pairs.count;
            for (; level > 0 && open > 0; level--) {
                for (int pair = 0; pair < pairs.count && open > 0; pair++) {
                    if (gains[pair] == level) {
                        choosePair(pair);
                    }
                }
            }
        }

        private void choosePair(int pair) {
            chosen[count] = pair;
            count++;
            int members = pairs.listHad(pair, had);
            for (int i = 0; i < members; i++) {
                int member = had[i];
                if ((marks[member >> 6] >>> (member & 63) & 1L) == 0) {
                    marks[member >> 6] |= 1L << (member & 63);
                    open--;
                    int holding = pairs.listHolders(member, holders);
                    for (int h = 0; h < holding; h++) {
                        gains[holders[h]]--;
                    }
                }
            }
        }

        private void leaveOut() {
            Arrays.fill(holdings, 0, pairs.count, 0);
            for (int k = 0; k < count; k++) {
                addHoldings(pairs.listHad(chosen[k], had), 1);
            }
            for (int k = count - 1; k >= 0; k--) {
                int members = pairs.listHad(chosen[k], had);
                if (areHeldTwice(members)) {
                    addHoldings(members, -1);
                    chosen[k] = NONE;
                }
            }
            int left = 0;
            for (int k = 0; k < count; k++) {
                if (chosen[k] != NONE) {
                    chosen[left] = chosen[k];
                    left++;
                }
            }
            count = left;
        }

        private void addHoldings(int members, int change) {
            for (int i = 0; i < members; i++) {
                holdings[had[i]] += change;
            }
        }

        private boolean areHeldTwice(int members) {
            for (int i = 0; i < members; i++) {
                if (holdings[had[i]] < 2) {
                    return false;
                }
            }
            return true;
        }

        int firstHaving(int pair) {
            for (int k = 0; k < count; k++) {
                if (pairs.includes(chosen[k], pair)) {
                    return k;
                }
            }
            return NONE;
        }

        /** How many pairs no other sentence of the cover has than that of this one. */
        int countAlone(int pair) {
            int members = pairs.listHad(pair, had);
            int found = 0;
            for (int i = 0; i < members; i++) {
                found += holdings[had[i]] == 1 ? 1 : 0;
            }
            return found;
        }

        int countSpoilt(int pair) {
            Letters sentence = pairs.spell(pair);
            int found = 0;
            for (int place = 0; place < sentence.size; place++) {
                found += Integer.bitCount(sets.spoilers(sentence, place));
            }
            return found;
        }

        /** The place (times 16) and the letter of a wrong sentence; NONE if there are not so many. */
        int findSpoilt(int pair, int i) {
            Letters sentence = pairs.spell(pair);
            int left = i;
            for (int place = 0; place < sentence.size; place++) {
                int spoilers = sets.spoilers(sentence, place);
                int here = Integer.bitCount(spoilers);
                if (left < here) {
                    return place * LETTERS + bitAt(spoilers, left);
                }
                left -= here;
            }
            return NONE;
        }

        /** The number of the set bit that has so many set ones below it. */
        private static int bitAt(int bits, int below) {
            int rest = bits;
            for (int i = 0; i < below; i++) {
                rest &= rest - 1;
            }
            return Integer.numberOfTrailingZeros(rest);
        }

        int countApart() {
            if (boundAt != pairs.madeAt) {
                boundAt = pairs.madeAt;
                apart = findApart();
            }
            return apart;
        }

        private int findApart() {
            Arrays.fill(marks, 0L);
            int found = 0;
            for (int pair = 0; pair < pairs.count; pair++) {
                if ((marks[pair >> 6] >>> (pair & 63) & 1L) == 0) {
                    found++;
                    int holding = pairs.listHolders(pair, holders);
                    for (int i = 0; i < holding; i++) {
                        pairs.addHad(holders[i], marks);
                    }
                }
            }
            return found;
        }
    }

    /** How many trees make so many letters, which tree has a number, and which number a tree has. */
    private static final class TreeCounts {
        private static final long MOST = 1000000000000L;
        private static final int LENGTHS = MOST_MADE + 1;
        private static final int MOST_OPEN = 64;
        /** At most 47 nodes of a tree of 24 letters are no row of one symbol, each below at most seven that are. */
        private static final int MOST_NODES = 400;

        private final Grammar grammar;
        private int madeAt = NONE;
        private int filled;
        private final long[] table = new long[CODES * LENGTHS];
        private final int[] openCodes = new int[MOST_OPEN];
        private final int[] openLengths = new int[MOST_OPEN];
        private final long[] openNumbers = new long[MOST_OPEN];
        private int open;
        final int[] rules = new int[MOST_NODES];
        int ruleCount;
        final int[] letters = new int[MOST_MADE];
        int letterCount;
        private int pickedSymbol = NONE;
        private int pickedLength;
        private int pickedNumber;
        private final long[] below = new long[Chart.MOST_NODES];

        TreeCounts(Grammar grammar) {
            this.grammar = grammar;
            for (int letter = 0; letter < LETTERS; letter++) {
                table[(FIRST_LETTER + letter) * LENGTHS + 1] = 1;
            }
        }

        /** Makes ready for trees of up to so many letters. */
        void prepare(int n) {
            if (madeAt != grammar.version) {
                madeAt = grammar.version;
                filled = 0;
                pickedSymbol = NONE;
            }
            for (int length = filled + 1; length <= n && length <= MOST_MADE; length++) {
                fillLength(length);
                filled = length;
            }
        }

        long of(int code, int n) {
            return table[code * LENGTHS + n];
        }

        private static long plus(long a, long b) {
            return Math.min(a + b, MOST);
        }

        private static long times(long a, long b) {
            if (a == 0 || b == 0) {
                return 0;
            }
            return a > MOST / b ? MOST : a * b;
        }

        private void fillLength(int n) {
            for (int rule = 0; rule < grammar.count; rule++) {
                if (grammar.isOn(rule)) {
                    for (int place = 0; place < grammar.sizes[rule] - 1; place++) {
                        int code = FIRST_REST + rule * MOST_SIGNS + place;
                        table[code * LENGTHS + n] = sumOverCuts(rule, place, n);
                    }
                }
            }
            for (int i = 0; i < SYMBOLS; i++) {
                int symbol = grammar.order[i];
                table[symbol * LENGTHS + n] = sumOverRules(symbol, MOST_RULES, n);
            }
        }

        private long sumOverCuts(int rule, int place, int n) {
            int sign = grammar.signAt(rule, place);
            int rest = grammar.restCode(rule, place);
            return sumBelowCut(sign, rest, n, sign >= FIRST_LETTER ? Math.min(n, 2) : n);
        }

        /** How many trees there are of a sign and what stands behind it, where the sign makes less than so many. */
        private long sumBelowCut(int sign, int rest, int n, int cut) {
            long sum = 0;
            for (int length = 1; length < cut; length++) {
                long head = of(sign, length);
                if (head != 0) {
                    sum = plus(sum, times(head, of(rest, n - length)));
                }
            }
            return sum;
        }

        /** How many trees of a symbol have a rule below the one given. */
        private long sumOverRules(int symbol, int limit, int n) {
            long sum = 0;
            for (int rule = 0; rule < grammar.count && rule < limit; rule++) {
                if (grammar.symbols[rule] == symbol && grammar.isOn(rule)) {
                    sum = plus(sum, of(grammar.rowCode(rule), n));
                }
            }
            return sum;
        }

        /** Finds the letters and the rules of a tree by its number, which must be below how many there are. */
        void pick(int symbol, int n, int number) {
            if (pickedSymbol == symbol && pickedLength == n && pickedNumber == number) {
                return;
            }
            pickedSymbol = symbol;
            pickedLength = n;
            pickedNumber = number;
            ruleCount = 0;
            letterCount = 0;
            open = 0;
            push(symbol, n, number);
            for (int step = 0; step < MOST_NODES * MOST_SIGNS && open > 0; step++) {
                open--;
                openUp(openCodes[open], openLengths[open], openNumbers[open]);
            }
        }

        private void push(int code, int length, long number) {
            if (open < MOST_OPEN) {
                openCodes[open] = code;
                openLengths[open] = length;
                openNumbers[open] = number;
                open++;
            }
        }

        private void openUp(int code, int length, long number) {
            if (code < SYMBOLS) {
                pickRule(code, length, number);
            } else if (code >= FIRST_REST) {
                pickCut((code - FIRST_REST) / MOST_SIGNS, (code - FIRST_REST) % MOST_SIGNS, length, number);
            } else if (letterCount < MOST_MADE) {
                letters[letterCount] = code - FIRST_LETTER;
                letterCount++;
            }
        }

        private void pickRule(int symbol, int length, long number) {
            long left = number;
            for (int rule = 0; rule < grammar.count; rule++) {
                if (grammar.symbols[rule] == symbol && grammar.isOn(rule)) {
                    long here = of(grammar.rowCode(rule), length);
                    if (left < here) {
                        if (ruleCount < MOST_NODES) {
                            rules[ruleCount] = rule;
                            ruleCount++;
                        }
                        push(grammar.rowCode(rule), length, left);
                        return;
                    }
                    left -= here;
                }
            }
        }

        private void pickCut(int rule, int place, int length, long number) {
            int sign = grammar.signAt(rule, place);
            int rest = grammar.restCode(rule, place);
            long left = number;
            for (int head = 1; head < length; head++) {
                long behind = of(rest, length - head);
                long here = times(of(sign, head), behind);
                if (left < here && behind > 0) {
                    push(rest, length - head, left % behind);
                    push(sign, head, left / behind);
                    return;
                }
                left -= here;
            }
        }

        /**
         * The number of the own tree that a chart has built. The nodes are gone through from the last on,
         * so that the numbers of a node's trees lie on the pile, that of the first one on top, when it comes.
         */
        long ownNumber(Chart chart) {
            int piled = 0;
            for (int node = chart.nodeCount - 1; node >= 0; node--) {
                int rule = chart.nodeRules[node];
                int from = chart.cutOf(node, 0);
                int end = chart.cutOf(node, grammar.sizes[rule]);
                long sum = sumOverRules(grammar.symbols[rule], rule, end - from);
                for (int place = 0; place < grammar.sizes[rule]; place++) {
                    long own = 0;
                    if (grammar.signAt(rule, place) < SYMBOLS && piled > 0) {
                        piled--;
                        own = below[piled];
                    }
                    int cut = chart.cutOf(node, place + 1);
                    sum = plus(sum, aheadOfCut(rule, place, end - from, cut - from, own));
                    from = cut;
                }
                below[piled] = sum;
                piled++;
            }
            return piled > 0 ? below[0] : NONE;
        }

        /** How many trees of a row's end come ahead, by its first sign, that makes so many letters by that tree. */
        private long aheadOfCut(int rule, int place, int length, int head, long own) {
            if (place == grammar.sizes[rule] - 1) {
                return own;
            }
            int rest = grammar.restCode(rule, place);
            long shorter = sumBelowCut(grammar.signAt(rule, place), rest, length, head);
            return plus(shorter, times(own, of(rest, length - head)));
        }
    }

    /**
     * Which codes make which parts of a text. A column holds, for one end, the places where each code can begin,
     * as bits, so that a row's cuts are found by one mask; columns that a new text shares with the old one stay.
     */
    private static final class Chart {
        /** At most 31 nodes of a tree of 16 letters are no row of one symbol, each below at most seven that are. */
        static final int MOST_NODES = 256;
        static final int PLACES = MOST_TEXT + 1;
        private static final int NODE_CUTS = MOST_SIGNS + 1;
        private static final int MOST_STEPS = MOST_RULES * MOST_SIGNS;
        private static final int MOST_OPEN = 64;

        private final Grammar grammar;
        private final Sets sets;
        private int madeAt = NONE;
        private final int[] text = new int[MOST_TEXT];
        int size;
        private int filled;
        /** It grows with each other text or grammar that is held. */
        int stamp;
        private int builtAt = NONE;
        private final int[] symbolEnds = new int[SYMBOLS * PLACES];
        private final int[] columns = new int[PLACES * CODES];
        /**
         * By a step a sign and a code behind it make a code, or, without a sign, a row makes its symbol. Each step
         * stands behind those that it needs: symbols behind the symbols to which they come by rows of one alone.
         */
        final int[] stepSigns = new int[MOST_STEPS];
        final int[] stepRests = new int[MOST_STEPS];
        final int[] stepCodes = new int[MOST_STEPS];
        int stepCount;
        int nodeCount;
        final int[] nodeRules = new int[MOST_NODES];
        /** Where a node's row begins, and where each of its signs ends. */
        private final int[] nodeCuts = new int[MOST_NODES * NODE_CUTS];
        private int rulesBuilt;
        private final int[] openSpans = new int[MOST_OPEN];
        private int open;

        Chart(Grammar grammar, Sets sets) {
            this.grammar = grammar;
            this.sets = sets;
        }

        /** Takes up the first n of some letters, told from a base on. */
        void hold(int[] letters, int base, int n) {
            if (madeAt != grammar.version) {
                madeAt = grammar.version;
                listSteps();
                filled = 0;
            }
            int kept = 0;
            while (kept < n && kept < filled && text[kept] == letters[kept] - base) {
                kept++;
            }
            if (kept < n || n != size) {
                stamp++;
            }
            size = n;
            if (kept < n) {
                forgetBehind(kept);
                for (int end = kept + 1; end <= n; end++) {
                    text[end - 1] = letters[end - 1] - base;
                    fillColumn(end);
                }
                filled = n;
            }
        }

        private void listSteps() {
            stepCount = 0;
            for (int i = 0; i < SYMBOLS; i++) {
                int symbol = grammar.order[i];
                for (int rule = 0; rule < grammar.count; rule++) {
                    if (grammar.symbols[rule] == symbol && sets.isUsed(rule)) {
                        for (int place = grammar.sizes[rule] - 2; place >= 0; place--) {
                            int code = FIRST_REST + rule * MOST_SIGNS + place;
                            addStep(grammar.signAt(rule, place), grammar.restCode(rule, place), code);
                        }
                        addStep(NONE, grammar.rowCode(rule), symbol);
                    }
                }
            }
        }

        private void addStep(int sign, int rest, int code) {
            if (stepCount < MOST_STEPS) {
                stepSigns[stepCount] = sign;
                stepRests[stepCount] = rest;
                stepCodes[stepCount] = code;
                stepCount++;
            }
        }

        private void forgetBehind(int kept) {
            int mask = (2 << kept) - 1;
            for (int i = 0; i < symbolEnds.length; i++) {
                symbolEnds[i] &= mask;
            }
        }

        private void fillColumn(int end) {
            int base = end * CODES;
            Arrays.fill(columns, base, base + CODES, 0);
            columns[base + FIRST_LETTER + text[end - 1]] = 1 << end - 1;
            for (int from = end - 1; from >= 0; from--) {
                fillSpan(from, end);
            }
        }

        private void fillSpan(int from, int end) {
            int base = end * CODES;
            int bit = 1 << from;
            for (int i = 0; i < stepCount; i++) {
                int begins = columns[base + stepRests[i]];
                if (begins != 0) {
                    int sign = stepSigns[i];
                    if (((sign == NONE ? bit : endsOf(sign, from)) & begins) != 0) {
                        columns[base + stepCodes[i]] |= bit;
                        if (sign == NONE) {
                            symbolEnds[stepCodes[i] * PLACES + from] |= 1 << end;
                        }
                    }
                }
            }
        }

        /** Where what a sign makes from a place on can end, as bits. */
        private int endsOf(int sign, int from) {
            if (sign < SYMBOLS) {
                return symbolEnds[sign * PLACES + from];
            }
            return from < size && text[from] == sign - FIRST_LETTER ? 2 << from : 0;
        }

        boolean makes(int code, int from, int end) {
            return (columns[end * CODES + code] >> from & 1) != 0;
        }

        /** Where a sign can end that begins at a place, if the code behind it goes on to the end, as bits. */
        int cutsOf(int sign, int rest, int from, int end) {
            return endsOf(sign, from) & columns[end * CODES + rest];
        }

        boolean isSentence() {
            return makes(grammar.root, 0, size);
        }

        boolean ownTreeHas(int rule) {
            return (rulesBuilt >> rule & 1) != 0;
        }

        /** Where a sign of a node's row begins; behind the last one, where that ends. */
        int cutOf(int node, int place) {
            return nodeCuts[node * NODE_CUTS + place];
        }

        /** Builds the own tree of a text that is a sentence. */
        void buildOwnTree() {
            if (builtAt == stamp) {
                return;
            }
            builtAt = stamp;
            nodeCount = 0;
            rulesBuilt = 0;
            open = 0;
            push(grammar.root, 0, size);
            for (int step = 0; step < MOST_NODES && open > 0; step++) {
                open--;
                int span = openSpans[open];
                buildNode(span >> 16, span >> 8 & 255, span & 255);
            }
        }

        private void push(int symbol, int from, int end) {
            if (open < MOST_OPEN) {
                openSpans[open] = symbol << 16 | from << 8 | end;
                open++;
            }
        }

        private void buildNode(int symbol, int from, int end) {
            int rule = leastRule(symbol, from, end);
            if (rule == NONE || nodeCount >= MOST_NODES) {
                return;
            }
            int base = nodeCount * NODE_CUTS;
            int last = grammar.sizes[rule] - 1;
            nodeCuts[base] = from;
            for (int place = 0; place < last; place++) {
                int cuts = cutsOf(grammar.signAt(rule, place), grammar.restCode(rule, place),
                        nodeCuts[base + place], end);
                nodeCuts[base + place + 1] = cuts == 0 ? end : Integer.numberOfTrailingZeros(cuts);
            }
            nodeCuts[base + last + 1] = end;
            nodeRules[nodeCount] = rule;
            rulesBuilt |= 1 << rule;
            // the first part must come off the pile first, so it goes on last
            for (int place = last; place >= 0; place--) {
                if (grammar.signAt(rule, place) < SYMBOLS) {
                    push(grammar.signAt(rule, place), cutOf(nodeCount, place), cutOf(nodeCount, place + 1));
                }
            }
            nodeCount++;
        }

        private int leastRule(int symbol, int from, int end) {
            for (int rule = 0; rule < grammar.count; rule++) {
                if (grammar.symbols[rule] == symbol && sets.isUsed(rule) && makes(grammar.rowCode(rule), from, end)) {
                    return rule;
                }
            }
            return NONE;
        }
    }

    /** In how many ways the text that a chart holds is a sentence. */
    private static final class Ways {
        private static final int MOST = 1000000;

        private final Grammar grammar;
        private final Chart chart;
        private int madeAt = NONE;
        private int held;
        /** Of a symbol, where it begins and where it ends. */
        private final int[] spans = new int[SYMBOLS * Chart.PLACES * Chart.PLACES];
        /** Of an end of a row and where it begins, for the one place where all end just now. */
        private final int[] rests = new int[(CODES - FIRST_REST) * Chart.PLACES];

        Ways(Grammar grammar, Chart chart) {
            this.grammar = grammar;
            this.chart = chart;
        }

        int count() {
            if (madeAt != chart.stamp) {
                madeAt = chart.stamp;
                held = chart.isSentence() ? countSentence() : 0;
            }
            return held;
        }

        private int countSentence() {
            for (int end = 1; end <= chart.size; end++) {
                for (int from = end - 1; from >= 0; from--) {
                    countSpan(from, end);
                }
            }
            return spans[spanOf(grammar.root, 0, chart.size)];
        }

        private static int spanOf(int symbol, int from, int end) {
            return (symbol * Chart.PLACES + from) * Chart.PLACES + end;
        }

        private void countSpan(int from, int end) {
            for (int symbol = 0; symbol < SYMBOLS; symbol++) {
                spans[spanOf(symbol, from, end)] = 0;
            }
            for (int i = 0; i < chart.stepCount; i++) {
                int sign = chart.stepSigns[i];
                int rest = chart.stepRests[i];
                int code = chart.stepCodes[i];
                if (sign == NONE && chart.makes(rest, from, end)) {
                    int span = spanOf(code, from, end);
                    spans[span] = Math.min(spans[span] + waysOf(rest, from, end), MOST);
                } else if (sign != NONE && chart.makes(code, from, end)) {
                    rests[(code - FIRST_REST) * Chart.PLACES + from] = sumOverCuts(sign, rest, from, end);
                }
            }
        }

        private int sumOverCuts(int sign, int rest, int from, int end) {
            int cuts = chart.cutsOf(sign, rest, from, end);
            long sum = 0;
            for (int left = Integer.bitCount(cuts); left > 0; left--) {
                int cut = Integer.numberOfTrailingZeros(cuts);
                cuts &= cuts - 1;
                sum += (long) waysOf(sign, from, cut) * waysOf(rest, cut, end);
            }
            return (int) Math.min(sum, MOST);
        }

        private int waysOf(int code, int from, int end) {
            if (code < SYMBOLS) {
                return spans[spanOf(code, from, end)];
            }
            return code < FIRST_REST ? 1 : rests[(code - FIRST_REST) * Chart.PLACES + from];
        }
    }

    /** Makes a text shorter and shorter that shows a rule still; the latest outcome is kept. */
    private static final class Shrinker {
        private final Grammar grammar;
        private final Sets sets;
        private final Chart chart;
        private int madeAt = NONE;
        private int wanted;
        private final int[] given = new int[MOST_TEXT];
        private int givenSize;
        final int[] text = new int[MOST_TEXT];
        int size;
        private final int[] trial = new int[MOST_TEXT];

        Shrinker(Grammar grammar, Sets sets, Chart chart) {
            this.grammar = grammar;
            this.sets = sets;
            this.chart = chart;
        }

        /** Whether just this was the latest that was made shorter. */
        boolean isDone(int[] bytes, int n, int rule) {
            if (madeAt != grammar.version || wanted != rule || givenSize != n) {
                return false;
            }
            for (int i = 0; i < n; i++) {
                if (given[i] != bytes[i]) {
                    return false;
                }
            }
            return true;
        }

        /** Makes a sentence shorter in whose own tree the rule is. */
        void run(int[] bytes, int n, int rule) {
            if (isDone(bytes, n, rule)) {
                return;
            }
            madeAt = grammar.version;
            wanted = rule;
            givenSize = n;
            size = n;
            for (int i = 0; i < n; i++) {
                given[i] = bytes[i];
                text[i] = bytes[i] - 'a';
            }
            boolean shorter = true;
            for (int round = 0; round < MOST_TEXT && shorter; round++) {
                shorter = cutOnce();
            }
        }

        private boolean cutOnce() {
            for (int part = size - 1; part > 0; part--) {
                for (int from = 0; from + part <= size; from++) {
                    if (mayGo(from, part) && staysWithout(from, part)) {
                        size -= part;
                        System.arraycopy(trial, 0, text, 0, size);
                        return true;
                    }
                }
            }
            return false;
        }

        /** A cheap test ahead of the dear one: what comes side by side must be able to stand so. */
        private boolean mayGo(int from, int part) {
            int next = from + part;
            if (from == 0) {
                return sets.canBegin(text[next]);
            }
            return next == size ? sets.canEnd(text[from - 1]) : sets.canFollow(text[from - 1], text[next]);
        }

        private boolean staysWithout(int from, int part) {
            System.arraycopy(text, 0, trial, 0, from);
            System.arraycopy(text, from + part, trial, from, size - from - part);
            chart.hold(trial, 0, size - part);
            if (!chart.isSentence()) {
                return false;
            }
            chart.buildOwnTree();
            return chart.ownTreeHas(wanted);
        }
    }
}
