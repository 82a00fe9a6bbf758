import java.math.BigInteger;
import java.util.ArrayList;
import java.util.Arrays;
import java.util.HashMap;
import java.util.List;
import java.util.Map;
import java.util.TreeSet;

/**
 * The document told a second time, as plainly as can be and with no care for speed: trees are objects, sets are sets,
 * numbers are big. The class under test is compared with it.
 */
final class Model {
    static final int NONE = -1;
    static final BigInteger TREES = BigInteger.valueOf(1000000000000L);
    static final BigInteger WAYS = BigInteger.valueOf(1000000L);

    static final class Rule {
        final int symbol;
        final int[] signs;
        final int weight;
        final boolean on;

        Rule(int symbol, int[] signs, int weight, boolean on) {
            this.symbol = symbol;
            this.signs = signs;
            this.weight = weight;
            this.on = on;
        }
    }

    static final class State {
        final List<Rule> rules;
        final int start;

        State(List<Rule> rules, int start) {
            this.rules = rules;
            this.start = start;
        }
    }

    /** A tree: its rule, and of each sign of the row a tree or, of a letter, null. */
    static final class Tree {
        final int rule;
        final Tree[] parts;

        Tree(int rule, Tree[] parts) {
            this.rule = rule;
            this.parts = parts;
        }
    }

    /** A context: the rules and places from START down, and its cost and rules as told by the document. */
    static final class Context {
        final int cost;
        final int rules;
        final int rule;
        final int place;

        Context(int cost, int rules, int rule, int place) {
            this.cost = cost;
            this.rules = rules;
            this.rule = rule;
            this.place = place;
        }
    }

    static final class Pair {
        int rule;
        int place;
        int other;
        int cost;
        List<Integer> letters;
        TreeSet<Integer> had = new TreeSet<>();
        Tree tree;
    }

    State state = new State(new ArrayList<>(), 0);
    final List<State> past = new ArrayList<>();
    final List<Integer> tape = new ArrayList<>();
    int status;
    int faultKind = NONE;
    int faultPlace = NONE;

    // what is found of the present state; null where it has not been looked for
    private Tree[] yields;
    private Context[] contexts;
    private List<Pair> pairs;
    private List<Integer> cover;
    private int[] firsts;
    private int[] lasts;
    private boolean[][] beside;
    private Map<String, BigInteger> counts = new HashMap<>();
    private String shrunkKey = "";
    private String shrunkText = "";

    private int refuse(int why) {
        status = why;
        return NONE;
    }

    private int answer(int value) {
        status = 0;
        return value;
    }

    private void become(State next) {
        state = next;
        yields = null;
        contexts = null;
        pairs = null;
        cover = null;
        firsts = null;
        lasts = null;
        beside = null;
        counts = new HashMap<>();
        shrunkKey = "";
    }

    private void act(State next) {
        past.add(state);
        if (past.size() > 8) {
            past.remove(0);
        }
        become(next);
    }

    // ---- the tape and the text

    int feed(int a, int b, int c, int d, int e) {
        if (tape.size() + 20 > 400) {
            return NONE;
        }
        for (int word : new int[] {a, b, c, d, e}) {
            tape.add(word >>> 24);
            tape.add(word >>> 16 & 255);
            tape.add(word >>> 8 & 255);
            tape.add(word & 255);
        }
        return tape.size();
    }

    int load(int n) {
        if (n < 0 || n > tape.size()) {
            return refuse(1);
        }
        List<Integer> text = new ArrayList<>(tape.subList(0, n));
        tape.clear();
        State read = read(text);
        if (read == null) {
            return refuse(7);
        }
        act(read);
        return answer(read.rules.size());
    }

    private State fail(int kind, int place) {
        faultKind = kind;
        faultPlace = place;
        return null;
    }

    /** Reads by what has stood so far, blanks left out: a string of kinds that must stay the head of some text. */
    private State read(List<Integer> text) {
        List<Rule> rules = new ArrayList<>();
        TreeSet<Integer> told = new TreeSet<>();
        String seen = "";
        int symbol = NONE;
        int first = NONE;
        List<Integer> row = new ArrayList<>();
        int weight = 1;
        for (int i = 0; i < text.size(); i++) {
            int b = text.get(i);
            if (b == 10 || b == 32) {
                continue;
            }
            String kind = b >= 'A' && b <= 'H' ? "S" : b >= 'a' && b <= 'p' ? "l" : b >= '0' && b <= '9' ? "9"
                    : b == '=' || b == '|' || b == ';' || b == ':' ? "" + (char) b : "?";
            if (kind.equals("?")) {
                return fail(1, i);
            }
            String now = seen + kind;
            boolean lineHead = now.matches("S(=([Sl]{1,4}(:9)?\\|)*([Sl]{1,5}|[Sl]{1,4}:9?)?)?");
            boolean lineEnd = now.matches("S=([Sl]{1,4}(:9)?\\|)*[Sl]{1,4}(:9)?;");
            if (!lineHead && !lineEnd) {
                return fail(2, i);
            }
            if (now.equals("S")) {
                symbol = b - 'A';
                if (told.contains(symbol)) {
                    return fail(3, i);
                }
                told.add(symbol);
                if (first == NONE) {
                    first = symbol;
                }
            } else if (kind.equals("S") || kind.equals("l")) {
                row.add(kind.equals("S") ? b - 'A' : 16 + b - 'a');
                if (row.size() == 5) {
                    return fail(4, i);
                }
                if (row.size() == 1 && rules.size() == 16) {
                    return fail(5, i);
                }
            } else if (kind.equals("9")) {
                weight = b - '0';
            } else if (b == '|' || b == ';') {
                int[] signs = new int[row.size()];
                for (int k = 0; k < signs.length; k++) {
                    signs[k] = row.get(k);
                }
                rules.add(new Rule(symbol, signs, weight, true));
                row.clear();
                weight = 1;
            }
            seen = lineEnd ? "" : now;
        }
        if (!seen.isEmpty() || rules.isEmpty()) {
            return fail(2, text.size());
        }
        for (Rule rule : rules) {
            for (int sign : rule.signs) {
                if (sign < 16 && !told.contains(sign)) {
                    return fail(6, text.size());
                }
            }
        }
        boolean[][] comes = new boolean[8][8];
        for (Rule rule : rules) {
            if (rule.signs.length == 1 && rule.signs[0] < 16) {
                comes[rule.symbol][rule.signs[0]] = true;
            }
        }
        for (int k = 0; k < 8; k++) {
            for (int a = 0; a < 8; a++) {
                for (int b = 0; b < 8; b++) {
                    comes[a][b] |= comes[a][k] && comes[k][b];
                }
            }
        }
        for (int a = 0; a < 8; a++) {
            if (comes[a][a]) {
                return fail(7, text.size());
            }
        }
        faultKind = 0;
        faultPlace = NONE;
        return new State(rules, first);
    }

    int fault(int what) {
        return what == 0 ? faultKind : what == 1 ? faultPlace : NONE;
    }

    int drop(int n) {
        if (n < 0 || n > tape.size()) {
            return refuse(1);
        }
        for (int i = 0; i < n; i++) {
            tape.remove(tape.size() - 1);
        }
        return answer(tape.size());
    }

    // ---- acts

    private boolean isRule(int rule) {
        return rule >= 0 && rule < state.rules.size();
    }

    private State with(int number, int weight, boolean on) {
        List<Rule> rules = new ArrayList<>(state.rules);
        Rule old = rules.get(number);
        rules.set(number, new Rule(old.symbol, old.signs, weight, on));
        return new State(rules, state.start);
    }

    int turn(int rule, boolean on) {
        if (!isRule(rule)) {
            return refuse(2);
        }
        Rule old = state.rules.get(rule);
        if (old.on == on) {
            return refuse(3);
        }
        act(with(rule, old.weight, on));
        return answer(Integer.bitCount(onBits()));
    }

    int weigh(int rule, int weight) {
        if (weight < 0 || weight > 9) {
            return refuse(1);
        }
        if (!isRule(rule)) {
            return refuse(2);
        }
        Rule old = state.rules.get(rule);
        if (old.weight == weight) {
            return refuse(3);
        }
        act(with(rule, weight, old.on));
        return answer(old.weight);
    }

    int start(int symbol) {
        int why = symbolWhy(symbol);
        if (why != 0) {
            return refuse(why);
        }
        if (state.start == symbol) {
            return refuse(3);
        }
        int old = state.start;
        act(new State(state.rules, symbol));
        return answer(old);
    }

    int undo() {
        if (past.isEmpty()) {
            return refuse(6);
        }
        become(past.remove(past.size() - 1));
        return answer(past.size());
    }

    // ---- sets

    private int symbolWhy(int symbol) {
        if (symbol < 0 || symbol > 7) {
            return 1;
        }
        for (Rule rule : state.rules) {
            if (rule.symbol == symbol) {
                return 0;
            }
        }
        return 2;
    }

    private int onBits() {
        int bits = 0;
        for (int r = 0; r < state.rules.size(); r++) {
            bits |= state.rules.get(r).on ? 1 << r : 0;
        }
        return bits;
    }

    private int toldBits() {
        int bits = 0;
        for (Rule rule : state.rules) {
            bits |= 1 << rule.symbol;
        }
        return bits;
    }

    /** A symbol is good if it has a tree in which no symbol stands above itself. */
    private boolean isGood(int symbol, int above) {
        if ((above >> symbol & 1) != 0) {
            return false;
        }
        for (Rule rule : state.rules) {
            boolean fine = rule.on && rule.symbol == symbol;
            for (int k = 0; fine && k < rule.signs.length; k++) {
                fine = rule.signs[k] >= 16 || isGood(rule.signs[k], above | 1 << symbol);
            }
            if (fine) {
                return true;
            }
        }
        return false;
    }

    private int goodBits() {
        int bits = 0;
        for (int s = 0; s < 8; s++) {
            bits |= isGood(s, 0) ? 1 << s : 0;
        }
        return bits;
    }

    private boolean isSound(Rule rule, int good) {
        boolean sound = rule.on;
        for (int sign : rule.signs) {
            sound &= sign >= 16 || (good >> sign & 1) != 0;
        }
        return sound;
    }

    private int comeToBits() {
        int good = goodBits();
        int bits = 1 << state.start;
        List<Integer> open = new ArrayList<>(List.of(state.start));
        while (!open.isEmpty()) {
            int symbol = open.remove(0);
            for (Rule rule : state.rules) {
                if (rule.symbol == symbol && isSound(rule, good)) {
                    for (int sign : rule.signs) {
                        if (sign < 16 && (bits >> sign & 1) == 0) {
                            bits |= 1 << sign;
                            open.add(sign);
                        }
                    }
                }
            }
        }
        return bits;
    }

    private int usedBits() {
        int good = goodBits();
        int come = comeToBits();
        int bits = 0;
        for (int r = 0; r < state.rules.size(); r++) {
            Rule rule = state.rules.get(r);
            bits |= isSound(rule, good) && (come >> rule.symbol & 1) != 0 ? 1 << r : 0;
        }
        return bits;
    }

    private int usedLetterBits() {
        int used = usedBits();
        int bits = 0;
        for (int r = 0; r < state.rules.size(); r++) {
            for (int sign : state.rules.get(r).signs) {
                bits |= (used >> r & 1) != 0 && sign >= 16 ? 1 << sign - 16 : 0;
            }
        }
        return bits;
    }

    private int endBits(int symbol, boolean last, boolean[] seen, int good) {
        if (seen[symbol]) {
            return 0;
        }
        seen[symbol] = true;
        int bits = 0;
        for (Rule rule : state.rules) {
            if (rule.symbol == symbol && isSound(rule, good)) {
                int sign = rule.signs[last ? rule.signs.length - 1 : 0];
                bits |= sign >= 16 ? 1 << sign - 16 : endBits(sign, last, seen, good);
            }
        }
        return bits;
    }

    private void findEnds() {
        if (firsts != null) {
            return;
        }
        int good = goodBits();
        firsts = new int[8];
        lasts = new int[8];
        for (int s = 0; s < 8; s++) {
            firsts[s] = endBits(s, false, new boolean[8], good);
            lasts[s] = endBits(s, true, new boolean[8], good);
        }
        beside = new boolean[16][16];
        int used = usedBits();
        for (int r = 0; r < state.rules.size(); r++) {
            int[] signs = state.rules.get(r).signs;
            for (int k = 1; (used >> r & 1) != 0 && k < signs.length; k++) {
                int left = signs[k - 1] >= 16 ? 1 << signs[k - 1] - 16 : lasts[signs[k - 1]];
                int right = signs[k] >= 16 ? 1 << signs[k] - 16 : firsts[signs[k]];
                for (int a = 0; a < 16; a++) {
                    for (int b = 0; b < 16; b++) {
                        beside[a][b] |= (left >> a & 1) != 0 && (right >> b & 1) != 0;
                    }
                }
            }
        }
    }

    int many(int what) {
        switch (what) {
            case 0: return answer(state.rules.size());
            case 1: return answer(onBits());
            case 2: return answer(state.start);
            case 3: return answer(toldBits());
            case 4: return answer(goodBits());
            case 5: return answer(comeToBits());
            case 6: return answer(usedBits());
            case 7: return answer(usedLetterBits());
            case 8: return answer(pairs().size());
            case 9: return answer(cover().size());
            case 10: return answer(past.size());
            default: return refuse(1);
        }
    }

    int rule(int rule, int what) {
        if (what < 0 || what > 3) {
            return refuse(1);
        }
        if (!isRule(rule)) {
            return refuse(2);
        }
        Rule r = state.rules.get(rule);
        return answer(what == 0 ? r.symbol : what == 1 ? r.signs.length : what == 2 ? r.weight : r.on ? 1 : 0);
    }

    int sign(int rule, int i) {
        if (i < 0) {
            return refuse(1);
        }
        if (!isRule(rule)) {
            return refuse(2);
        }
        int[] signs = state.rules.get(rule).signs;
        return i < signs.length ? answer(signs[i]) : refuse(6);
    }

    int ends(int symbol, int what) {
        int why = what != 0 && what != 1 ? 1 : symbolWhy(symbol);
        if (why != 0) {
            return refuse(why);
        }
        findEnds();
        return answer(what == 0 ? firsts[symbol] : lasts[symbol]);
    }

    int beside(int letter) {
        if (letter < -1 || letter > 15) {
            return refuse(1);
        }
        findEnds();
        int bits = 0;
        for (int b = 0; letter >= 0 && b < 16; b++) {
            bits |= beside[letter][b] ? 1 << b : 0;
        }
        return answer(letter < 0 ? firsts[state.start] : bits);
    }

    private int foretold(int symbol, int letter) {
        findEnds();
        int good = goodBits();
        int bits = 0;
        for (int r = 0; r < state.rules.size(); r++) {
            Rule rule = state.rules.get(r);
            if (rule.symbol == symbol && isSound(rule, good)) {
                int sign = rule.signs[0];
                int first = sign >= 16 ? 1 << sign - 16 : firsts[sign];
                bits |= (first >> letter & 1) != 0 ? 1 << r : 0;
            }
        }
        return bits;
    }

    int foretells(int symbol, int letter) {
        int why = letter < 0 || letter > 15 ? 1 : symbolWhy(symbol);
        return why != 0 ? refuse(why) : answer(foretold(symbol, letter));
    }

    int conflicts() {
        int found = 0;
        for (int s = 0; s < 8; s++) {
            for (int l = 0; l < 16; l++) {
                found += Integer.bitCount(foretold(s, l)) >= 2 ? 1 : 0;
            }
        }
        return answer(found);
    }

    // ---- trees as objects

    private int costOf(Tree tree) {
        Rule rule = state.rules.get(tree.rule);
        int cost = rule.weight;
        for (Tree part : tree.parts) {
            cost += part == null ? 1 : costOf(part);
        }
        return cost;
    }

    private void listRules(Tree tree, List<Integer> out) {
        out.add(tree.rule);
        for (Tree part : tree.parts) {
            if (part != null) {
                listRules(part, out);
            }
        }
    }

    List<Integer> rulesOf(Tree tree) {
        List<Integer> out = new ArrayList<>();
        listRules(tree, out);
        return out;
    }

    private void listLetters(Tree tree, List<Integer> out) {
        int[] signs = state.rules.get(tree.rule).signs;
        for (int k = 0; k < signs.length; k++) {
            if (tree.parts[k] == null) {
                out.add(signs[k] - 16);
            } else {
                listLetters(tree.parts[k], out);
            }
        }
    }

    List<Integer> lettersOf(Tree tree) {
        List<Integer> out = new ArrayList<>();
        listLetters(tree, out);
        return out;
    }

    /** The tree of a rule whose symbols are yields, but the one in a place, which is a tree that is given. */
    private Tree treeOf(int number, int place, Tree given) {
        int[] signs = state.rules.get(number).signs;
        Tree[] parts = new Tree[signs.length];
        for (int k = 0; k < signs.length; k++) {
            if (signs[k] < 16) {
                parts[k] = k == place ? given : yields[signs[k]];
                if (parts[k] == null) {
                    return null;
                }
            }
        }
        return new Tree(number, parts);
    }

    private static boolean before(int[] a, int[] b) {
        for (int k = 0; k < a.length; k++) {
            if (a[k] != b[k]) {
                return a[k] < b[k];
            }
        }
        return false;
    }

    private Tree[] yieldTrees() {
        if (yields != null) {
            return yields;
        }
        yields = new Tree[8];
        boolean changed = true;
        while (changed) {
            changed = false;
            for (int r = 0; r < state.rules.size(); r++) {
                Rule rule = state.rules.get(r);
                Tree made = rule.on ? treeOf(r, NONE, null) : null;
                if (made == null || costOf(made) > 200) {
                    continue;
                }
                Tree old = yields[rule.symbol];
                if (old == null || before(new int[] {costOf(made), rulesOf(made).size(), r},
                        new int[] {costOf(old), rulesOf(old).size(), old.rule})) {
                    yields[rule.symbol] = made;
                    changed = true;
                }
            }
        }
        // a tree may still hold what was a yield before one as good by a lesser rule was found: made anew from the top
        Tree[] found = yields;
        yields = new Tree[8];
        for (int s = 0; s < 8; s++) {
            yields[s] = found[s] == null ? null : madeAnew(found, s);
        }
        return yields;
    }

    private Tree madeAnew(Tree[] found, int symbol) {
        int number = found[symbol].rule;
        int[] signs = state.rules.get(number).signs;
        Tree[] parts = new Tree[signs.length];
        for (int k = 0; k < signs.length; k++) {
            parts[k] = signs[k] < 16 ? madeAnew(found, signs[k]) : null;
        }
        return new Tree(number, parts);
    }

    private Context[] contexts() {
        if (contexts != null) {
            return contexts;
        }
        yieldTrees();
        contexts = new Context[8];
        contexts[state.start] = new Context(0, 0, NONE, NONE);
        boolean changed = true;
        while (changed) {
            changed = false;
            for (int r = 0; r < state.rules.size(); r++) {
                Rule rule = state.rules.get(r);
                for (int k = 0; rule.on && k < rule.signs.length; k++) {
                    int symbol = rule.signs[k];
                    Context made = symbol < 16 && symbol != state.start ? contextBy(r, k) : null;
                    Context old = made == null ? null : contexts[symbol];
                    if (made != null && (old == null || before(new int[] {made.cost, made.rules, r, k},
                            new int[] {old.cost, old.rules, old.rule, old.place}))) {
                        contexts[symbol] = made;
                        changed = true;
                    }
                }
            }
        }
        return contexts;
    }

    private Context contextBy(int number, int place) {
        Rule rule = state.rules.get(number);
        Context above = contexts[rule.symbol];
        if (above == null) {
            return null;
        }
        int cost = above.cost + rule.weight;
        int rules = above.rules + 1;
        for (int k = 0; k < rule.signs.length; k++) {
            if (rule.signs[k] >= 16) {
                cost++;
            } else if (k != place) {
                Tree part = yields[rule.signs[k]];
                if (part == null) {
                    return null;
                }
                cost += costOf(part);
                rules += rulesOf(part).size();
            }
        }
        return cost > 200 ? null : new Context(cost, rules, number, place);
    }

    /** Puts the context of a symbol about a tree of it. */
    private Tree inContext(int symbol, Tree tree) {
        Context context = contexts()[symbol];
        if (context.rule == NONE) {
            return tree;
        }
        return inContext(state.rules.get(context.rule).symbol, treeOf(context.rule, context.place, tree));
    }

    private List<Integer> aroundOf(int symbol, boolean right) {
        List<Integer> out = new ArrayList<>();
        Context context = contexts()[symbol];
        if (context.rule == NONE) {
            return out;
        }
        Rule rule = state.rules.get(context.rule);
        List<Integer> above = aroundOf(rule.symbol, right);
        List<Integer> here = new ArrayList<>();
        for (int k = right ? context.place + 1 : 0; k < (right ? rule.signs.length : context.place); k++) {
            if (rule.signs[k] >= 16) {
                here.add(rule.signs[k] - 16);
            } else {
                here.addAll(lettersOf(yields[rule.signs[k]]));
            }
        }
        out.addAll(right ? here : above);
        out.addAll(right ? above : here);
        return out;
    }

    int yields(int symbol, int what) {
        int why = what < 0 || what > 3 ? 1 : symbolWhy(symbol);
        if (why != 0) {
            return refuse(why);
        }
        Tree tree = yieldTrees()[symbol];
        if (tree == null) {
            return refuse(6);
        }
        return answer(what == 0 ? costOf(tree) : what == 1 ? rulesOf(tree).size()
                : what == 2 ? lettersOf(tree).size() : tree.rule);
    }

    private int letter(List<Integer> letters, int i) {
        return i < letters.size() ? answer(letters.get(i)) : refuse(6);
    }

    int yielded(int symbol, int i) {
        int why = i < 0 ? 1 : symbolWhy(symbol);
        if (why != 0) {
            return refuse(why);
        }
        Tree tree = yieldTrees()[symbol];
        return tree == null ? refuse(6) : letter(lettersOf(tree), i);
    }

    int context(int symbol, int what) {
        int why = what < 0 || what > 5 ? 1 : symbolWhy(symbol);
        if (why != 0) {
            return refuse(why);
        }
        Context c = contexts()[symbol];
        if (c == null) {
            return refuse(6);
        }
        switch (what) {
            case 0: return answer(c.cost);
            case 1: return answer(c.rules);
            case 2: return answer(aroundOf(symbol, false).size());
            case 3: return answer(aroundOf(symbol, true).size());
            case 4: return answer(c.rule);
            default: return answer(c.place);
        }
    }

    int around(int symbol, boolean right, int i) {
        int why = i < 0 ? 1 : symbolWhy(symbol);
        if (why != 0) {
            return refuse(why);
        }
        return contexts()[symbol] == null ? refuse(6) : letter(aroundOf(symbol, right), i);
    }

    // ---- pairs

    private List<Pair> pairs() {
        if (pairs != null) {
            return pairs;
        }
        contexts();
        pairs = new ArrayList<>();
        Map<String, Integer> numbers = new HashMap<>();
        for (int r = 0; r < state.rules.size(); r++) {
            Rule rule = state.rules.get(r);
            for (int k = 0; k < rule.signs.length; k++) {
                for (int o = 0; o < state.rules.size(); o++) {
                    Rule other = state.rules.get(o);
                    if (rule.on && other.on && rule.signs[k] == other.symbol && contexts[rule.symbol] != null) {
                        Tree lower = treeOf(o, NONE, null);
                        Tree upper = lower == null ? null : treeOf(r, k, lower);
                        Tree whole = upper == null ? null : inContext(rule.symbol, upper);
                        if (whole != null && costOf(whole) <= 200) {
                            Pair pair = new Pair();
                            pair.rule = r;
                            pair.place = k;
                            pair.other = o;
                            pair.cost = costOf(whole);
                            pair.letters = lettersOf(whole);
                            pair.tree = whole;
                            numbers.put(r + " " + k + " " + o, pairs.size());
                            pairs.add(pair);
                        }
                    }
                }
            }
        }
        for (Pair pair : pairs) {
            listPairs(pair.tree, numbers, pair.had);
        }
        return pairs;
    }

    private void listPairs(Tree tree, Map<String, Integer> numbers, TreeSet<Integer> out) {
        for (int k = 0; k < tree.parts.length; k++) {
            if (tree.parts[k] != null) {
                out.add(numbers.get(tree.rule + " " + k + " " + tree.parts[k].rule));
                listPairs(tree.parts[k], numbers, out);
            }
        }
    }

    private List<Integer> cover() {
        if (cover != null) {
            return cover;
        }
        pairs();
        TreeSet<Integer> open = new TreeSet<>();
        for (int p = 0; p < pairs.size(); p++) {
            open.add(p);
        }
        List<Integer> taken = new ArrayList<>();
        while (!open.isEmpty()) {
            int best = NONE;
            int most = 0;
            for (int p = 0; p < pairs.size(); p++) {
                int gain = 0;
                for (int q : pairs.get(p).had) {
                    gain += open.contains(q) ? 1 : 0;
                }
                if (gain > most) {
                    most = gain;
                    best = p;
                }
            }
            taken.add(best);
            open.removeAll(pairs.get(best).had);
        }
        for (int k = taken.size() - 1; k >= 0; k--) {
            TreeSet<Integer> others = new TreeSet<>();
            for (int j = 0; j < taken.size(); j++) {
                if (j != k) {
                    others.addAll(pairs.get(taken.get(j)).had);
                }
            }
            if (others.containsAll(pairs.get(taken.get(k)).had)) {
                taken.remove(k);
            }
        }
        cover = taken;
        return cover;
    }

    int pair(int pair, int what) {
        if (pair < 0 || what < 0 || what > 5) {
            return refuse(1);
        }
        if (pair >= pairs().size()) {
            return refuse(6);
        }
        Pair p = pairs.get(pair);
        switch (what) {
            case 0: return answer(p.rule);
            case 1: return answer(p.place);
            case 2: return answer(p.other);
            case 3: return answer(p.cost);
            case 4: return answer(p.letters.size());
            default: return answer(p.had.size());
        }
    }

    int shown(int pair, int i) {
        if (pair < 0 || i < 0) {
            return refuse(1);
        }
        return pair >= pairs().size() ? refuse(6) : letter(pairs.get(pair).letters, i);
    }

    int pairOf(int rule, int place, int other) {
        if (place < 0) {
            return refuse(1);
        }
        if (!isRule(rule) || !isRule(other)) {
            return refuse(2);
        }
        for (int p = 0; p < pairs().size(); p++) {
            Pair pair = pairs.get(p);
            if (pair.rule == rule && pair.place == place && pair.other == other) {
                return answer(p);
            }
        }
        return refuse(6);
    }

    int has(int pair, int other) {
        if (pair < 0 || other < 0) {
            return refuse(1);
        }
        if (pair >= pairs().size() || other >= pairs.size()) {
            return refuse(6);
        }
        return answer(pairs.get(pair).had.contains(other) ? 1 : 0);
    }

    int cover(int k, int what) {
        if (k < 0 || what < 0 || what > 4) {
            return refuse(1);
        }
        if (k >= cover().size()) {
            return refuse(6);
        }
        Pair p = pairs.get(cover.get(k));
        switch (what) {
            case 0: return answer(cover.get(k));
            case 1: return answer(p.letters.size());
            case 2: return answer(p.had.size());
            case 3: return answer(alone(k));
            default: return answer(wrongs(p.letters).size());
        }
    }

    private int alone(int k) {
        TreeSet<Integer> left = new TreeSet<>(pairs.get(cover.get(k)).had);
        for (int j = 0; j < cover.size(); j++) {
            if (j != k) {
                left.removeAll(pairs.get(cover.get(j)).had);
            }
        }
        return left.size();
    }

    int by(int pair) {
        if (pair < 0) {
            return refuse(1);
        }
        if (pair >= pairs().size()) {
            return refuse(6);
        }
        for (int k = 0; k < cover().size(); k++) {
            if (pairs.get(cover.get(k)).had.contains(pair)) {
                return answer(k);
            }
        }
        return refuse(6);
    }

    /** All letters that spoil a sentence, each with its place, as {place, letter}. */
    private List<int[]> wrongs(List<Integer> letters) {
        findEnds();
        List<int[]> out = new ArrayList<>();
        int known = usedLetterBits();
        for (int place = 0; place < letters.size(); place++) {
            for (int l = 0; l < 16; l++) {
                if ((known >> l & 1) != 0 && letters.get(place) != l) {
                    List<Integer> other = new ArrayList<>(letters);
                    other.set(place, l);
                    if (cannotBe(other)) {
                        out.add(new int[] {place, l});
                    }
                }
            }
        }
        return out;
    }

    private boolean cannotBe(List<Integer> letters) {
        boolean bad = (firsts[state.start] >> letters.get(0) & 1) == 0
                || (lasts[state.start] >> letters.get(letters.size() - 1) & 1) == 0;
        for (int i = 1; i < letters.size(); i++) {
            bad |= !beside[letters.get(i - 1)][letters.get(i)];
        }
        return bad;
    }

    int wrong(int k, int i, int what) {
        if (k < 0 || i < 0 || what < 0 || what > 1) {
            return refuse(1);
        }
        if (k >= cover().size()) {
            return refuse(6);
        }
        List<int[]> all = wrongs(pairs.get(cover.get(k)).letters);
        return i < all.size() ? answer(all.get(i)[what]) : refuse(6);
    }

    int bound() {
        pairs();
        List<Integer> taken = new ArrayList<>();
        for (int p = 0; p < pairs.size(); p++) {
            boolean together = false;
            for (Pair pair : pairs) {
                if (pair.had.contains(p)) {
                    for (int t : taken) {
                        together |= pair.had.contains(t);
                    }
                }
            }
            if (!together) {
                taken.add(p);
            }
        }
        return answer(taken.size());
    }

    // ---- trees by their numbers

    private BigInteger count(int symbol, int n) {
        String key = symbol + " " + n;
        BigInteger known = counts.get(key);
        if (known != null) {
            return known;
        }
        BigInteger sum = BigInteger.ZERO;
        for (int r = 0; r < state.rules.size(); r++) {
            Rule rule = state.rules.get(r);
            if (rule.on && rule.symbol == symbol) {
                sum = sum.add(countRow(r, 0, n));
            }
        }
        counts.put(key, sum);
        return sum;
    }

    private BigInteger countSign(int sign, int n) {
        return sign < 16 ? count(sign, n) : n == 1 ? BigInteger.ONE : BigInteger.ZERO;
    }

    private BigInteger countRow(int number, int from, int n) {
        int[] signs = state.rules.get(number).signs;
        if (from == signs.length) {
            return n == 0 ? BigInteger.ONE : BigInteger.ZERO;
        }
        if (n < signs.length - from) {
            return BigInteger.ZERO;
        }
        String key = "r" + number + " " + from + " " + n;
        BigInteger known = counts.get(key);
        if (known != null) {
            return known;
        }
        BigInteger sum = BigInteger.ZERO;
        for (int m = 1; m <= n - (signs.length - from - 1); m++) {
            BigInteger rest = countRow(number, from + 1, n - m);
            if (rest.signum() != 0) {
                sum = sum.add(countSign(signs[from], m).multiply(rest));
            }
        }
        counts.put(key, sum);
        return sum;
    }

    private Tree treeBy(int symbol, int n, BigInteger number) {
        BigInteger left = number;
        for (int r = 0; r < state.rules.size(); r++) {
            Rule rule = state.rules.get(r);
            if (rule.on && rule.symbol == symbol) {
                BigInteger here = countRow(r, 0, n);
                if (left.compareTo(here) < 0) {
                    Tree[] parts = new Tree[rule.signs.length];
                    fillParts(r, 0, n, left, parts);
                    return new Tree(r, parts);
                }
                left = left.subtract(here);
            }
        }
        return null;
    }

    private void fillParts(int number, int from, int n, BigInteger index, Tree[] parts) {
        int[] signs = state.rules.get(number).signs;
        if (from == signs.length) {
            return;
        }
        BigInteger left = index;
        for (int m = 1; m <= n; m++) {
            BigInteger rest = countRow(number, from + 1, n - m);
            BigInteger here = countSign(signs[from], m).multiply(rest);
            if (left.compareTo(here) < 0) {
                BigInteger[] both = left.divideAndRemainder(rest);
                parts[from] = signs[from] < 16 ? treeBy(signs[from], m, both[0]) : null;
                fillParts(number, from + 1, n - m, both[1], parts);
                return;
            }
            left = left.subtract(here);
        }
    }

    /** All trees of a symbol that make n letters, in the order that the document tells, made one by one. */
    List<Tree> allTrees(int symbol, int n) {
        List<Tree> out = new ArrayList<>();
        for (int r = 0; r < state.rules.size(); r++) {
            Rule rule = state.rules.get(r);
            if (rule.on && rule.symbol == symbol) {
                addTrees(r, new Tree[rule.signs.length], 0, n, out);
            }
        }
        return out;
    }

    private void addTrees(int number, Tree[] parts, int from, int n, List<Tree> out) {
        int[] signs = state.rules.get(number).signs;
        if (from == signs.length) {
            if (n == 0) {
                out.add(new Tree(number, parts.clone()));
            }
            return;
        }
        for (int m = 1; m <= n - (signs.length - from - 1); m++) {
            if (signs[from] >= 16) {
                if (m == 1) {
                    addTrees(number, parts, from + 1, n - 1, out);
                }
            } else if (countRow(number, from + 1, n - m).signum() != 0) {
                for (Tree part : allTrees(signs[from], m)) {
                    parts[from] = part;
                    addTrees(number, parts, from + 1, n - m, out);
                }
            }
        }
    }

    long trees(int symbol, int n) {
        int why = n < 1 || n > 24 ? 1 : symbolWhy(symbol);
        if (why != 0) {
            return refuse(why);
        }
        answer(0);
        return count(symbol, n).min(TREES).longValue();
    }

    private int treeWhy(int symbol, int n, int i, int at) {
        int why = n < 1 || n > 24 || i < 0 || at < 0 ? 1 : symbolWhy(symbol);
        if (why != 0) {
            return why;
        }
        return BigInteger.valueOf(i).compareTo(count(symbol, n)) < 0 ? 0 : 6;
    }

    int tree(int symbol, int n, int i, int at) {
        int why = treeWhy(symbol, n, i, at);
        return why != 0 ? refuse(why) : letter(lettersOf(treeBy(symbol, n, BigInteger.valueOf(i))), at);
    }

    int treeRule(int symbol, int n, int i, int k) {
        int why = treeWhy(symbol, n, i, k);
        return why != 0 ? refuse(why) : letter(rulesOf(treeBy(symbol, n, BigInteger.valueOf(i))), k);
    }

    // ---- texts

    private int textWhy(int n) {
        if (n < 1 || n > 16 || n > tape.size()) {
            return 1;
        }
        for (int i = 0; i < n; i++) {
            if (tape.get(i) < 'a' || tape.get(i) > 'p') {
                return 4;
            }
        }
        return 0;
    }

    private int[] text(int n) {
        int[] out = new int[n];
        for (int i = 0; i < n; i++) {
            out[i] = tape.get(i) - 'a';
        }
        return out;
    }

    /** The trees of one text, counted and built top down. */
    private final class Parser {
        final int[] text;
        final Map<Integer, BigInteger> known = new HashMap<>();

        Parser(int[] text) {
            this.text = text;
        }

        BigInteger ways(int symbol, int from, int end) {
            int key = (symbol * 20 + from) * 20 + end;
            if (!known.containsKey(key)) {
                BigInteger sum = BigInteger.ZERO;
                for (int r = 0; r < state.rules.size(); r++) {
                    if (state.rules.get(r).on && state.rules.get(r).symbol == symbol) {
                        sum = sum.add(rowWays(r, 0, from, end));
                    }
                }
                known.put(key, sum);
            }
            return known.get(key);
        }

        BigInteger rowWays(int number, int k, int from, int end) {
            int[] signs = state.rules.get(number).signs;
            if (k == signs.length) {
                return from == end ? BigInteger.ONE : BigInteger.ZERO;
            }
            if (end - from < signs.length - k) {
                return BigInteger.ZERO;
            }
            int key = 100000 + ((number * 5 + k) * 20 + from) * 20 + end;
            if (!known.containsKey(key)) {
                BigInteger sum = BigInteger.ZERO;
                for (int m = from + 1; m <= end - (signs.length - k - 1); m++) {
                    BigInteger head = signWays(signs[k], from, m);
                    if (head.signum() != 0) {
                        sum = sum.add(head.multiply(rowWays(number, k + 1, m, end)));
                    }
                }
                known.put(key, sum);
            }
            return known.get(key);
        }

        BigInteger signWays(int sign, int from, int end) {
            if (sign < 16) {
                return ways(sign, from, end);
            }
            return end == from + 1 && text[from] == sign - 16 ? BigInteger.ONE : BigInteger.ZERO;
        }

        Tree own(int symbol, int from, int end) {
            for (int r = 0; r < state.rules.size(); r++) {
                Rule rule = state.rules.get(r);
                if (rule.on && rule.symbol == symbol && rowWays(r, 0, from, end).signum() != 0) {
                    Tree[] parts = new Tree[rule.signs.length];
                    int at = from;
                    for (int k = 0; k < parts.length; k++) {
                        int m = at + 1;
                        while (signWays(rule.signs[k], at, m).signum() == 0
                                || rowWays(r, k + 1, m, end).signum() == 0) {
                            m++;
                        }
                        parts[k] = rule.signs[k] < 16 ? own(rule.signs[k], at, m) : null;
                        at = m;
                    }
                    return new Tree(r, parts);
                }
            }
            return null;
        }

        Tree own() {
            return own(state.start, 0, text.length);
        }
    }

    private BigInteger numberOf(Tree tree) {
        int n = lettersOf(tree).size();
        Rule rule = state.rules.get(tree.rule);
        BigInteger sum = BigInteger.ZERO;
        for (int r = 0; r < tree.rule; r++) {
            if (state.rules.get(r).on && state.rules.get(r).symbol == rule.symbol) {
                sum = sum.add(countRow(r, 0, n));
            }
        }
        int left = n;
        for (int k = 0; k < tree.parts.length; k++) {
            int size = tree.parts[k] == null ? 1 : lettersOf(tree.parts[k]).size();
            for (int m = 1; m < size; m++) {
                sum = sum.add(countSign(rule.signs[k], m).multiply(countRow(tree.rule, k + 1, left - m)));
            }
            left -= size;
            if (tree.parts[k] != null) {
                sum = sum.add(numberOf(tree.parts[k]).multiply(countRow(tree.rule, k + 1, left)));
            }
        }
        return sum;
    }

    long number(int n) {
        int why = textWhy(n);
        if (why != 0) {
            return refuse(why);
        }
        Tree own = new Parser(text(n)).own();
        if (own == null) {
            return refuse(5);
        }
        answer(0);
        return numberOf(own).min(TREES).longValue();
    }

    int ways(int n) {
        int why = textWhy(n);
        if (why != 0) {
            return refuse(why);
        }
        return answer(new Parser(text(n)).ways(state.start, 0, n).min(WAYS).intValue());
    }

    int parse(int n) {
        int why = textWhy(n);
        if (why != 0) {
            return refuse(why);
        }
        Tree own = new Parser(text(n)).own();
        return own == null ? refuse(5) : answer(rulesOf(own).size());
    }

    int parsed(int n, int i) {
        int why = i < 0 ? 1 : textWhy(n);
        if (why != 0) {
            return refuse(why);
        }
        Tree own = new Parser(text(n)).own();
        return own == null ? refuse(5) : letter(rulesOf(own), i);
    }

    private boolean shows(int[] text, int rule) {
        Tree own = new Parser(text).own();
        return own != null && rulesOf(own).contains(rule);
    }

    private int[] shrinkAll(int[] given, int rule) {
        int[] text = given;
        boolean changed = true;
        while (changed) {
            changed = false;
            for (int part = text.length - 1; part >= 1 && !changed; part--) {
                for (int from = 0; from + part <= text.length && !changed; from++) {
                    int[] less = Arrays.copyOf(text, text.length - part);
                    System.arraycopy(text, from + part, less, from, text.length - from - part);
                    if (shows(less, rule)) {
                        text = less;
                        changed = true;
                    }
                }
            }
        }
        return text;
    }

    private int shrunkWhy(int n, int rule) {
        int why = textWhy(n);
        if (why == 1) {
            return 1;
        }
        if (!isRule(rule)) {
            return 2;
        }
        if (why != 0) {
            return why;
        }
        String key = Arrays.toString(text(n)) + rule;
        if (key.equals(shrunkKey)) {
            return 0;
        }
        if (!shows(text(n), rule)) {
            return 5;
        }
        shrunkKey = key;
        StringBuilder out = new StringBuilder();
        for (int l : shrinkAll(text(n), rule)) {
            out.append((char) ('a' + l));
        }
        shrunkText = out.toString();
        return 0;
    }

    int shrink(int n, int rule) {
        int why = shrunkWhy(n, rule);
        return why != 0 ? refuse(why) : answer(shrunkText.length());
    }

    int shrunk(int n, int rule, int i) {
        int why = i < 0 ? 1 : shrunkWhy(n, rule);
        if (why != 0) {
            return refuse(why);
        }
        return i < shrunkText.length() ? answer(shrunkText.charAt(i) - 'a') : refuse(6);
    }
}
