/** Calls the class and its model alike, and looks whether answers and STATUS are the same. */
final class Both {
    static final int CALLS = 35;

    final SentenceMaker maker = new SentenceMaker();
    final Model model = new Model();
    final Check check;
    private final String name;
    private final StringBuilder run = new StringBuilder();
    private boolean told;

    Both(Check check, String name) {
        this.check = check;
        this.name = name;
    }

    private void same(String call, long got, long want) {
        run.append(call).append(" -> ").append(got).append('\n');
        check.due(name + " " + call, got, want);
        check.due(name + " status after " + call, maker.status(), model.status);
        if ((got != want || maker.status() != model.status) && !told && check.wrongs() < 10) {
            told = true;
            System.out.println("the run was:\n" + run);
        }
    }

    void feed(int[] bytes) {
        for (int at = 0; at < bytes.length; at += 20) {
            int a = Feeder.word(bytes, at);
            int b = Feeder.word(bytes, at + 4);
            int c = Feeder.word(bytes, at + 8);
            int d = Feeder.word(bytes, at + 12);
            int e = Feeder.word(bytes, at + 16);
            same("feed " + a + " " + b + " " + c + " " + d + " " + e, maker.feed(a, b, c, d, e),
                    model.feed(a, b, c, d, e));
        }
    }

    void load(String text) {
        run.append("text: ").append(text).append('\n');
        feed(Feeder.bytes(text));
        same("load " + text.length(), maker.load(text.length()), model.load(text.length()));
        faults();
    }

    void faults() {
        for (int what = -1; what <= 2; what++) {
            same("fault " + what, maker.fault(what), model.fault(what));
        }
    }

    /** Empties the tape and puts some letters on it, and nothing behind them. */
    void put(int[] letters, int n) {
        int[] bytes = new int[n];
        for (int i = 0; i < n; i++) {
            bytes[i] = 'a' + letters[i];
        }
        call(34, model.tape.size(), 0, 0, 0);
        feed(bytes);
        call(34, (20 - n % 20) % 20, 0, 0, 0);
    }

    void call(int which, int a, int b, int c, int d) {
        String args = " " + a + " " + b + " " + c + " " + d;
        SentenceMaker x = maker;
        Model y = model;
        switch (which) {
            case 0: same("load" + args, x.load(a), y.load(a)); faults(); break;
            case 1: same("turn" + args, x.turn(a, (b & 1) != 0), y.turn(a, (b & 1) != 0)); break;
            case 2: same("weigh" + args, x.weigh(a, b), y.weigh(a, b)); break;
            case 3: same("start" + args, x.start(a), y.start(a)); break;
            case 4: same("undo" + args, x.undo(), y.undo()); break;
            case 5: same("many" + args, x.many(a), y.many(a)); break;
            case 6: same("rule" + args, x.rule(a, b), y.rule(a, b)); break;
            case 7: same("sign" + args, x.sign(a, b), y.sign(a, b)); break;
            case 8: same("ends" + args, x.ends(a, b), y.ends(a, b)); break;
            case 9: same("beside" + args, x.beside(a), y.beside(a)); break;
            case 10: same("yields" + args, x.yields(a, b), y.yields(a, b)); break;
            case 11: same("yielded" + args, x.yielded(a, b), y.yielded(a, b)); break;
            case 12: same("context" + args, x.context(a, b), y.context(a, b)); break;
            case 13: same("around" + args, x.around(a, (c & 1) != 0, b), y.around(a, (c & 1) != 0, b)); break;
            case 14: same("pair" + args, x.pair(a, b), y.pair(a, b)); break;
            case 15: same("shown" + args, x.shown(a, b), y.shown(a, b)); break;
            case 16: same("pairOf" + args, x.pairOf(a, b, c), y.pairOf(a, b, c)); break;
            case 17: same("has" + args, x.has(a, b), y.has(a, b)); break;
            case 18: same("cover" + args, x.cover(a, b), y.cover(a, b)); break;
            case 19: same("by" + args, x.by(a), y.by(a)); break;
            case 20: same("wrong" + args, x.wrong(a, b, c), y.wrong(a, b, c)); break;
            case 21: same("foretells" + args, x.foretells(a, b), y.foretells(a, b)); break;
            case 22: same("conflicts" + args, x.conflicts(), y.conflicts()); break;
            case 23: same("bound" + args, x.bound(), y.bound()); break;
            case 24: same("trees" + args, x.trees(a, b), y.trees(a, b)); break;
            case 25: same("tree" + args, x.tree(a, b, c, d), y.tree(a, b, c, d)); break;
            case 26: same("treeRule" + args, x.treeRule(a, b, c, d), y.treeRule(a, b, c, d)); break;
            case 27: same("number" + args, x.number(a), y.number(a)); break;
            case 28: same("ways" + args, x.ways(a), y.ways(a)); break;
            case 29: same("parse" + args, x.parse(a), y.parse(a)); break;
            case 30: same("parsed" + args, x.parsed(a, b), y.parsed(a, b)); break;
            case 31: same("shrink" + args, x.shrink(a, b), y.shrink(a, b)); break;
            case 32: same("shrunk" + args, x.shrunk(a, b, c), y.shrunk(a, b, c)); break;
            case 33: same("feed" + args, x.feed(a, b, c, d, a), y.feed(a, b, c, d, a)); break;
            default: same("drop" + args, x.drop(a), y.drop(a)); break;
        }
    }
}
