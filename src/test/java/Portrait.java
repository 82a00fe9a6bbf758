/**
 * All that calls can tell of an object, as a text: its grammar, what is found of that, its tape and what can be undone.
 * Some of that goes when it is looked at, and an object is used for 512 calls alone: so each part has an object to
 * itself, all of them made alike.
 */
final class Portrait {
    private static final int PARTS = 5;

    /** Makes an object ready to be looked at. */
    interface Setup {
        void on(SentenceMaker x);
    }

    private final StringBuilder out = new StringBuilder();
    private SentenceMaker x;

    private Portrait() {
    }

    static String of(Setup setup) {
        Portrait portrait = new Portrait();
        for (int part = 0; part < PARTS; part++) {
            portrait.x = new SentenceMaker();
            setup.on(portrait.x);
            portrait.tellPart(part);
        }
        return portrait.out.toString();
    }

    /** The first row in which two portraits are not the same, or nothing. */
    static String difference(String a, String b) {
        if (a.equals(b)) {
            return "";
        }
        String[] left = a.split("\n");
        String[] right = b.split("\n");
        for (int i = 0; i < left.length && i < right.length; i++) {
            if (!left[i].equals(right[i])) {
                return left[i] + " is now " + right[i];
            }
        }
        return "there are " + left.length + " rows, now " + right.length;
    }

    private void tellPart(int part) {
        switch (part) {
            case 0:
                tellGrammar();
                break;
            case 1:
                tellPairs();
                break;
            case 2:
                tellTexts();
                break;
            case 3:
                tellTape();
                break;
            default:
                tellPast();
                break;
        }
    }

    private void tell(String call, long answer) {
        out.append(call).append(" = ").append(answer);
        if (answer == SentenceMaker.NONE) {
            out.append(" with ").append(x.status());
        }
        out.append('\n');
    }

    private void tellRules() {
        int rules = x.many(0);
        for (int r = 0; r < rules; r++) {
            for (int what = 0; what < 4; what++) {
                tell("rule " + r + " " + what, x.rule(r, what));
            }
            for (int i = 0; i < x.rule(r, 1); i++) {
                tell("sign " + r + " " + i, x.sign(r, i));
            }
        }
    }

    private void tellGrammar() {
        out.append("fault ").append(x.fault(0)).append(' ').append(x.fault(1)).append('\n');
        for (int what = 0; what <= 10; what++) {
            tell("many " + what, x.many(what));
        }
        tellRules();
        for (int letter = -1; letter < 16; letter++) {
            tell("beside " + letter, x.beside(letter));
        }
        for (int s = 0; s < 8; s++) {
            tell("FIRST " + s, x.ends(s, 0));
            tell("LAST " + s, x.ends(s, 1));
            tell("yields " + s, x.yields(s, 0));
            tell("context " + s, x.context(s, 0));
            tell("LEFT " + s, x.context(s, 2));
            tell("RIGHT " + s, x.context(s, 3));
        }
    }

    private void tellPairs() {
        int pairs = Math.min(x.many(8), 8);
        for (int p = 0; p < pairs; p++) {
            for (int what = 0; what < 6; what++) {
                tell("pair " + p + " " + what, x.pair(p, what));
            }
            tell("shown " + p, x.shown(p, 0));
            tell("by " + p, x.by(p));
        }
        int cover = Math.min(x.many(9), 8);
        for (int k = 0; k < cover; k++) {
            for (int what = 0; what < 5; what++) {
                tell("cover " + k + " " + what, x.cover(k, what));
            }
            tell("wrong " + k, x.wrong(k, 0, 1));
        }
        tell("bound", x.bound());
        tell("conflicts", x.conflicts());
        int start = x.many(2);
        for (int n = 1; n <= 24; n++) {
            tell("trees " + n, x.trees(start, n));
            tell("tree " + n, x.tree(start, n, 0, n - 1));
        }
    }

    private void tellTexts() {
        tell("taped", x.drop(0));
        for (int n = 1; n <= 16; n++) {
            tell("ways " + n, x.ways(n));
            int rules = x.parse(n);
            tell("parse " + n, rules);
            for (int i = 0; i < rules && i < 8; i++) {
                tell("parsed " + n + " " + i, x.parsed(n, i));
            }
            tell("number " + n, x.number(n));
        }
    }

    /** Each byte of a grammar's text is seen when it is loaded; of another text, all that stands ahead of its FAULT. */
    private void tellTape() {
        int taped = x.drop(0);
        tell("load", x.load(taped));
        out.append("fault ").append(x.fault(0)).append(' ').append(x.fault(1)).append('\n');
        tell("START", x.many(2));
        tellRules();
        out.append("fed ").append(x.feed(0x413d6162, 0x3b202020, 0, 0, 0)).append('\n');
        tell("load the next", x.load(5));
    }

    private void tellPast() {
        for (int i = 0; i < 9; i++) {
            tell("undo", x.undo());
            tell("rules", x.many(0));
            tell("ON", x.many(1));
            tell("START", x.many(2));
            tell("TOLD", x.many(3));
            int rules = x.many(0);
            for (int r = 0; r < rules; r++) {
                tell("weight " + r, x.rule(r, 2));
                tell("first sign " + r, x.sign(r, 0));
            }
        }
        out.append("fault ").append(x.fault(0)).append(' ').append(x.fault(1)).append('\n');
    }
}
