/** Each promise of the document by itself: what is ordinary, the edges that it names, and wrong inputs. */
public final class PromisesTest {
    private static final int NONE = SentenceMaker.NONE;
    /** Rules: 0 A=aB, 1 A=b (weight 3), 2 B=c, 3 B=Ad. */
    private static final String SMALL = "A = a B | b : 3 ; B = c | A d ;";
    /** Rules: 0 A=AbA, 1 A=a. */
    private static final String AMBIGUOUS = "A=AbA|a;";

    /** Each node that has letters, or two below it, has seven rows of one symbol above it. */
    private static final String LONG = "A=B;B=C;C=D;D=E;E=F;F=G;G=H;H=AA|a;";

    private static final Check CHECK = new Check();
    private static String promise = "";
    private static SentenceMaker x = new SentenceMaker();

    private PromisesTest() {
    }

    private static void begin(int number) {
        promise = "promise " + number;
        x = new SentenceMaker();
    }

    private static void begin(int number, String grammar) {
        begin(number);
        Feeder.load(x, grammar);
    }

    /** An answer with STATUS 0. */
    private static void is(String call, long got, long want) {
        CHECK.due(promise + ": " + call, got, want);
        CHECK.due(promise + ": status after " + call, x.status(), 0);
    }

    /** A refusal: NONE, with a STATUS. */
    private static void no(String call, long got, int status) {
        CHECK.due(promise + ": " + call, got, NONE);
        CHECK.due(promise + ": status after " + call, x.status(), status);
    }

    private static void same(String call, long got, long want) {
        CHECK.due(promise + ": " + call, got, want);
    }

    private static int bits(String letters) {
        int bits = 0;
        for (char c : letters.toCharArray()) {
            bits |= 1 << c - 'a';
        }
        return bits;
    }

    private static void newObject() {
        begin(1);
        same("status of a new object", x.status(), 0);
        same("fault(0) ahead of any load", x.fault(0), NONE);
        same("fault(1) ahead of any load", x.fault(1), NONE);
        is("many(0)", x.many(0), 0);
        is("many(2)", x.many(2), 0);
        is("many(3)", x.many(3), 0);
        is("many(10)", x.many(10), 0);
        is("an empty tape", x.drop(0), 0);
        no("nothing can be undone", x.undo(), 6);
        same("NONE", SentenceMaker.NONE, -1);
        Feeder.load(x, SMALL);
        SentenceMaker other = new SentenceMaker();
        same("another object has nothing of the first", other.many(0), 0);
    }

    private static void status() {
        begin(2);
        no("many(-1)", x.many(-1), 1);
        x.feed(0, 0, 0, 0, 0);
        same("status stays behind feed", x.status(), 1);
        x.fault(0);
        same("status stays behind fault", x.status(), 1);
        x.status();
        same("status stays behind status", x.status(), 1);
        is("many(0)", x.many(0), 0);
        no("rule(0, 0)", x.rule(0, 0), 2);
        is("conflicts()", x.conflicts(), 0);
    }

    private static void feed() {
        begin(3);
        for (int i = 1; i <= 20; i++) {
            same("feed " + i, x.feed(i, 0, 0, 0, 0), 20 * i);
        }
        same("the 21st", x.feed(0, 0, 0, 0, 0), NONE);
        is("the tape is as it was", x.drop(0), 400);
        is("drop(1)", x.drop(1), 399);
        same("399 and 20 are too many", x.feed(0, 0, 0, 0, 0), NONE);
        is("drop(19)", x.drop(19), 380);
        same("380 and 20 are 400", x.feed(0, 0, 0, 0, 0), 400);

        begin(3);
        x.feed(0x413d6162, 0x63643b42, 0x3d65663b, 0, 0);
        no("B is told but not used: no fault, but bytes 0 behind", x.load(13), 7);
        same("its place is the first 0", x.fault(1), 12);
        x.feed(0x413d6162, 0x63643b42, 0x3d65663b, 0, 0);
        is("the highest byte comes first", x.load(12), 2);
        is("sign(0, 3)", x.sign(0, 3), 19);
        is("sign(1, 1)", x.sign(1, 1), 21);
    }

    private static void load() {
        begin(4);
        no("load(-1)", x.load(-1), 1);
        no("load(1) of an empty tape", x.load(1), 1);
        same("it is no load that fault tells", x.fault(0), NONE);
        no("load(0)", x.load(0), 7);
        Feeder.feed(x, SMALL);
        no("load(41) of 40", x.load(41), 1);
        is("the tape stays with STATUS 1", x.drop(0), 40);
        is("load(31)", x.load(31), 4);
        is("the whole tape is empty then", x.drop(0), 0);
        is("START is the first line's", x.many(2), 0);
        is("all are ON", x.many(1), 15);
        is("weight that is told", x.rule(1, 2), 3);
        is("weight without", x.rule(0, 2), 1);
        is("one act", x.many(10), 1);
        is("turn", x.turn(2, false), 3);
        is("weigh", x.weigh(0, 7), 1);
        is("start", x.start(1), 0);
        is("loaded anew", Feeder.load(x, "B=a|B a:0;"), 2);
        is("START anew", x.many(2), 1);
        is("all ON anew", x.many(1), 3);
        is("told anew", x.many(3), 2);
        is("weights anew", x.rule(0, 2), 1);
        is("weight 0", x.rule(1, 2), 0);
        no("a fault", Feeder.load(x, "A=aa"), 7);
        is("the grammar stays", x.many(0), 2);
        is("the acts stay", x.many(10), 5);
        is("the tape is empty", x.drop(0), 0);
        is("blanks anywhere", Feeder.load(x, "\n A\n= a\nB :\n 9 | b ; B = c ; \n"), 3);
        is("its weight", x.rule(0, 2), 9);
        is("16 rules", Feeder.load(x, "A=a|a|a|a|a|a|a|a|a|a|a|a|a|a|a|a;"), 16);
        is("four signs", Feeder.load(x, "H=pppp;"), 1);
        is("all symbols", Feeder.load(x, "H=G;G=F;F=E;E=D;D=C;C=B;B=A;A=a;"), 8);
    }

    private static void badText(String text, int kind, int place) {
        no("load of " + text, Feeder.load(x, text), 7);
        same("fault(0) of " + text, x.fault(0), kind);
        same("fault(1) of " + text, x.fault(1), place);
    }

    private static void fault() {
        begin(5);
        same("fault(-1)", x.fault(-1), NONE);
        badText("", 2, 0);
        badText(" \n", 2, 2);
        badText("A=a;B", 2, 5);
        badText("A=a", 2, 3);
        badText("A=a:", 2, 4);
        badText("A=a:1", 2, 5);
        badText("A=a|", 2, 4);
        badText("A=", 2, 2);
        badText("A", 2, 1);
        badText("A=a;i=b;", 2, 4);
        badText("=a;", 2, 0);
        badText("AA=a;", 2, 1);
        badText("A==a;", 2, 2);
        badText("A=;", 2, 2);
        badText("A=|a;", 2, 2);
        badText("A=:1;", 2, 2);
        badText("A=1;", 2, 2);
        badText("A=a1;", 2, 3);
        badText("A=a:a;", 2, 4);
        badText("A=a:;", 2, 4);
        badText("A=a:11;", 2, 5);
        badText("A=a:1a;", 2, 5);
        badText("A=a:1:1;", 2, 5);
        badText("A=a;;", 2, 4);
        badText("A=a;|", 2, 4);
        badText("A=q;", 1, 2);
        badText("A=I;", 1, 2);
        badText("A=a;#", 1, 4);
        badText("A=a;\t", 1, 4);
        badText("A=\u00e1;", 1, 2);
        badText("A=a;a#", 2, 4);
        badText("A=a;A=b;", 3, 4);
        badText("A=a;B=b;B", 3, 8);
        badText("A=aaaaa;", 4, 6);
        badText("A=a a\na a  a;", 4, 11);
        badText("A=abcd|abcde;", 4, 11);
        badText("A=a|a|a|a|a|a|a|a|a|a|a|a|a|a|a|a|b;", 5, 34);
        badText("A=a|a|a|a|a|a|a|a|a|a|a|a|a|a|a|a;B=b;", 5, 36);
        badText("A=a|a|a|a|a|a|a|a|a|a|a|a|a|a|a|a|;", 2, 34);
        badText("A=a|a|a|a|a|a|a|a|a|a|a|a|a|a|a|a;A=b;", 3, 34);
        badText("A=B;", 6, 4);
        badText("A=aC|b;B=b;", 6, 11);
        badText("A=B|C;B=A;", 6, 10);
        badText("A=A;", 7, 4);
        badText("A=a|A;", 7, 6);
        badText("A=a;B=C:0;C=b|D;D=B;", 7, 20);
        badText("A=A;q", 1, 4);
        is("a ring is by rows of one symbol alone", Feeder.load(x, "A=AA|B|a;B=bA|b;"), 5);
        same("fault(0) without one", x.fault(0), 0);
        same("fault(1) without one", x.fault(1), NONE);
        same("fault(2)", x.fault(2), NONE);
        badText("A=q;", 1, 2);
        no("load(5) of 0", x.load(5), 1);
        same("STATUS 1 changes no fault", x.fault(0), 1);
        x.undo();
        same("nor does undo", x.fault(1), 2);
    }

    private static void turn() {
        begin(6, SMALL);
        no("turn(-1)", x.turn(-1, false), 2);
        no("turn(4)", x.turn(4, true), 2);
        no("it is ON already", x.turn(0, true), 3);
        is("acts refused are none", x.many(10), 1);
        is("turn(1, off)", x.turn(1, false), 3);
        no("it is off already", x.turn(1, false), 3);
        is("turn(2, off)", x.turn(2, false), 2);
        is("ON", x.many(1), 9);
        is("rule(1, 3)", x.rule(1, 3), 0);
        is("none has a tree then", x.many(4), 0);
        is("TOLD stays", x.many(3), 3);
        is("turn(2, on)", x.turn(2, true), 3);
        is("ON", x.many(1), 13);
        is("acts", x.many(10), 4);
        no("of a huge number", x.turn(Integer.MAX_VALUE, true), 2);
    }

    private static void weigh() {
        begin(7, SMALL);
        no("weigh(0, -1)", x.weigh(0, -1), 1);
        no("weigh(0, 10)", x.weigh(0, 10), 1);
        no("weigh(4, 10)", x.weigh(4, 10), 1);
        no("weigh(4, 0)", x.weigh(4, 0), 2);
        no("weigh(-1, 0)", x.weigh(-1, 0), 2);
        no("weigh(1, 3)", x.weigh(1, 3), 3);
        is("weigh(1, 9)", x.weigh(1, 9), 3);
        is("it has it", x.rule(1, 2), 9);
        is("the yield is another one", x.yields(0, 3), 0);
        is("weigh(1, 0)", x.weigh(1, 0), 9);
        is("and back", x.yields(0, 3), 1);
        is("its cost", x.yields(0, 0), 1);
    }

    private static void start() {
        begin(8, SMALL);
        no("start(-1)", x.start(-1), 1);
        no("start(8)", x.start(8), 1);
        no("start(2)", x.start(2), 2);
        no("start(0)", x.start(0), 3);
        is("start(1)", x.start(1), 0);
        is("many(2)", x.many(2), 1);
        no("start(1) again", x.start(1), 3);
        is("what begins a sentence", x.beside(NONE), bits("abc"));
        is("context of START", x.context(1, 4), NONE);
        is("start(0)", x.start(0), 1);
        begin(8, SMALL);
        x.turn(2, false);
        x.turn(3, false);
        is("a symbol all of whose rules are off is TOLD", x.start(1), 0);
    }

    private static void undo() {
        begin(9, SMALL);
        x.turn(1, false);
        x.weigh(0, 5);
        x.start(1);
        is("undo start", x.undo(), 3);
        is("START", x.many(2), 0);
        is("undo weigh", x.undo(), 2);
        is("weight", x.rule(0, 2), 1);
        is("undo turn", x.undo(), 1);
        is("ON", x.many(1), 15);
        is("undo load", x.undo(), 0);
        is("no rules", x.many(0), 0);
        is("no symbol told", x.many(3), 0);
        no("none left", x.undo(), 6);
        begin(9, SMALL);
        for (int i = 0; i < 9; i++) {
            x.weigh(0, i == 0 ? 9 : i - 1 == 1 ? 8 : i - 1);
        }
        is("eight at most", x.many(10), 8);
        for (int left = 7; left >= 0; left--) {
            is("undo", x.undo(), left);
        }
        is("the ninth back stays", x.rule(0, 2), 9);
        no("none left", x.undo(), 6);
        is("weigh", x.weigh(0, 2), 9);
        is("one act again", x.undo(), 0);
        begin(9, SMALL);
        Feeder.load(x, "C=c;");
        Feeder.load(x, "C=");
        is("a load with a fault is no act", x.many(10), 2);
        is("undo the second load", x.undo(), 1);
        is("the first grammar", x.many(0), 4);
        is("its START", x.many(2), 0);
        is("its pairs", x.many(8), 4);
    }

    private static void many() {
        begin(10, "B=bCA|cD:2|a;C=c;D=Dd|dE;E=E e;A=a|f;F=g|BF;");
        is("rules", x.many(0), 11);
        is("ON", x.many(1), 2047);
        is("START", x.many(2), 1);
        is("TOLD", x.many(3), 63);
        is("GOOD", x.many(4), 1 | 2 | 4 | 32);
        is("COME TO", x.many(5), 1 | 2 | 4);
        is("USED", x.many(6), 1 | 4 | 8 | 128 | 256);
        is("LETTERS in those", x.many(7), bits("bcaf"));
        is("PAIRS", x.many(8), 3);
        is("COVER", x.many(9), 2);
        is("ACTS", x.many(10), 1);
        no("many(11)", x.many(11), 1);
        no("many(-1)", x.many(-1), 1);
        no("many(huge)", x.many(Integer.MIN_VALUE), 1);
        x.turn(3, false);
        is("GOOD without C", x.many(4), 1 | 2 | 32);
        is("COME TO without C", x.many(5), 2);
        is("USED without C", x.many(6), 4);
        x.turn(2, false);
        is("START is COME TO if nothing is GOOD", x.many(5), 2);
        is("no USED rule", x.many(6), 0);
        is("no letters", x.many(7), 0);
        is("no pairs", x.many(8), 0);
        is("no cover", x.many(9), 0);
    }

    private static void rule() {
        begin(11, SMALL);
        is("rule(3, 0)", x.rule(3, 0), 1);
        is("rule(0, 1)", x.rule(0, 1), 2);
        is("rule(1, 1)", x.rule(1, 1), 1);
        is("rule(1, 2)", x.rule(1, 2), 3);
        is("rule(1, 3)", x.rule(1, 3), 1);
        x.turn(1, false);
        is("rule(1, 3) off", x.rule(1, 3), 0);
        is("rule(1, 2) off", x.rule(1, 2), 3);
        no("rule(0, -1)", x.rule(0, -1), 1);
        no("rule(0, 4)", x.rule(0, 4), 1);
        no("rule(9, 4)", x.rule(9, 4), 1);
        no("rule(4, 0)", x.rule(4, 0), 2);
        no("rule(-1, 0)", x.rule(-1, 0), 2);
        no("rule(huge, 0)", x.rule(Integer.MAX_VALUE, 0), 2);
    }

    private static void sign() {
        begin(12, "A=pHa;H=a;");
        is("sign(0, 0)", x.sign(0, 0), 31);
        is("sign(0, 1)", x.sign(0, 1), 7);
        is("sign(0, 2)", x.sign(0, 2), 16);
        no("sign(0, 3)", x.sign(0, 3), 6);
        no("sign(1, 1)", x.sign(1, 1), 6);
        no("sign(0, huge)", x.sign(0, Integer.MAX_VALUE), 6);
        no("sign(0, -1)", x.sign(0, -1), 1);
        no("sign(5, -1)", x.sign(5, -1), 1);
        no("sign(2, 0)", x.sign(2, 0), 2);
        no("sign(-1, 0)", x.sign(-1, 0), 2);
    }

    private static void ends() {
        begin(13, SMALL);
        is("FIRST A", x.ends(0, 0), bits("ab"));
        is("LAST A", x.ends(0, 1), bits("bcd"));
        is("FIRST B", x.ends(1, 0), bits("abc"));
        is("LAST B", x.ends(1, 1), bits("cd"));
        no("ends(0, 2)", x.ends(0, 2), 1);
        no("ends(0, -1)", x.ends(0, -1), 1);
        no("ends(8, 0)", x.ends(8, 0), 1);
        no("ends(-1, 0)", x.ends(-1, 0), 1);
        no("ends(2, 0)", x.ends(2, 0), 2);
        no("ends(2, 2)", x.ends(2, 2), 1);
        begin(13, "A=aB|bC|c;B=Bb;C=d;D=eA|BfA|p;");
        is("not by a rule with a symbol that is not GOOD", x.ends(0, 0), bits("bc"));
        is("of one that is not GOOD", x.ends(1, 0), 0);
        is("LAST of one that is not GOOD", x.ends(1, 1), 0);
        is("of one that is not COME TO", x.ends(3, 0), bits("ep"));
        is("LAST of it", x.ends(3, 1), bits("dcp"));
    }

    private static void beside() {
        begin(14, SMALL);
        is("beside(NONE)", x.beside(NONE), bits("ab"));
        is("beside(a)", x.beside(0), bits("abc"));
        is("beside(b)", x.beside(1), bits("d"));
        is("beside(d)", x.beside(3), bits("d"));
        is("beside(p)", x.beside(15), 0);
        no("beside(-2)", x.beside(-2), 1);
        no("beside(16)", x.beside(16), 1);
        begin(14, "A=aC|b;B=ef;C=cCd|C;".replace("|C;", "|gh;"));
        is("not by a rule that is not COME TO", x.beside(4), 0);
        is("behind a", x.beside(0), bits("cg"));
        is("behind h", x.beside(7), bits("d"));
        x.start(1);
        is("by another START", x.beside(4), bits("f"));
        is("and no more by the others", x.beside(0), 0);
        is("what begins", x.beside(NONE), bits("e"));
        x.turn(2, false);
        is("what begins, if START is not GOOD", x.beside(NONE), 0);
    }

    private static void yields() {
        begin(15, SMALL);
        is("of several of one COST that with the fewest RULES", x.yields(0, 3), 1);
        is("cost A", x.yields(0, 0), 4);
        is("rules A", x.yields(0, 1), 1);
        is("letters A", x.yields(0, 2), 1);
        is("cost B", x.yields(1, 0), 2);
        is("rule B", x.yields(1, 3), 2);
        no("yields(0, 4)", x.yields(0, 4), 1);
        no("yields(0, -1)", x.yields(0, -1), 1);
        no("yields(8, 0)", x.yields(8, 0), 1);
        no("yields(-1, 0)", x.yields(-1, 0), 1);
        no("yields(2, 0)", x.yields(2, 0), 2);
        begin(15, "A=bb:0|aa:0|c;");
        is("of as many RULES by the least number", x.yields(0, 3), 0);
        begin(15, "A=BB:0|Aa:1;B=CC:0;C=DD:0;D=aaaa:9;");
        is("cost C", x.yields(2, 0), 26);
        is("cost B", x.yields(1, 0), 52);
        is("cost A", x.yields(0, 0), 104);
        is("rules A", x.yields(0, 1), 15);
        is("letters A", x.yields(0, 2), 32);
        begin(15, "A=BBBB:0;B=CCCC:0;C=DD:0;D=aaaa:9;E=FF;F=GGGG:4;G=HHHH:0;H=aa:4;");
        is("104 is below 200", x.yields(1, 0), 104);
        no("416 is above 200", x.yields(0, 0), 6);
        begin(15, "A=BBBB:0;B=CCCC:0;C=aaaa:8|aa;");
        x.weigh(3, 9);
        is("weighed so that C costs 11", x.yields(2, 0), 11);
        is("B costs 44", x.yields(1, 0), 44);
        is("A costs 176", x.yields(0, 0), 176);
        x.weigh(1, 6);
        is("A costs 200", x.yields(0, 0), 200);
        is("letters A", x.yields(0, 2), 32);
        x.weigh(0, 1);
        no("A costs 201", x.yields(0, 0), 6);
        x.turn(3, false);
        x.weigh(0, 0);
        x.weigh(1, 0);
        no("by the other rule it costs 192", x.yields(1, 4), 1);
        is("192", x.yields(0, 0), 192);
        x.turn(2, false);
        no("C has no rule that is ON", x.yields(2, 0), 6);
    }

    private static void yielded() {
        begin(16, "A=aB|C;B=Cbp;C=cd;");
        is("how many", x.yields(0, 2), 2);
        is("yielded(0, 0)", x.yielded(0, 0), 2);
        is("yielded(0, 1)", x.yielded(0, 1), 3);
        no("yielded(0, 2)", x.yielded(0, 2), 6);
        is("yielded(1, 0)", x.yielded(1, 0), 2);
        is("yielded(1, 2)", x.yielded(1, 2), 1);
        is("yielded(1, 3)", x.yielded(1, 3), 15);
        no("yielded(1, 4)", x.yielded(1, 4), 6);
        no("yielded(0, -1)", x.yielded(0, -1), 1);
        no("yielded(8, 0)", x.yielded(8, 0), 1);
        no("yielded(-1, 0)", x.yielded(-1, 0), 1);
        no("yielded(3, -1)", x.yielded(3, -1), 1);
        no("yielded(3, 0)", x.yielded(3, 0), 2);
        no("yielded(0, huge)", x.yielded(0, Integer.MAX_VALUE), 6);
        x.turn(3, false);
        no("no yield", x.yielded(0, 0), 6);
        // B=C and B=D are as good, and B=D is the first that can be seen to be
        begin(16, "A=B;F=d:0;D=F;B=C|D;C=E;E=c:0;");
        is("B by the least rule", x.yields(1, 3), 3);
        is("and so it is within A", x.yielded(0, 0), 2);
    }

    private static void context() {
        begin(17, SMALL);
        is("START: cost", x.context(0, 0), 0);
        is("START: rules", x.context(0, 1), 0);
        is("START: left", x.context(0, 2), 0);
        is("START: right", x.context(0, 3), 0);
        is("START: rule", x.context(0, 4), NONE);
        is("START: place", x.context(0, 5), NONE);
        is("B: cost", x.context(1, 0), 2);
        is("B: rules", x.context(1, 1), 1);
        is("B: left", x.context(1, 2), 1);
        is("B: right", x.context(1, 3), 0);
        is("B: rule", x.context(1, 4), 0);
        is("B: place", x.context(1, 5), 1);
        no("context(0, 6)", x.context(0, 6), 1);
        no("context(0, -1)", x.context(0, -1), 1);
        no("context(8, 0)", x.context(8, 0), 1);
        no("context(-1, 0)", x.context(-1, 0), 1);
        no("context(2, 0)", x.context(2, 0), 2);
        begin(17, "A=BCB|D;B=b;C=c|E;D=dCd;E=e;F=f;G=Gg|aE;");
        is("C by the dearer row: cost", x.context(2, 0), 4);
        is("C: rule", x.context(2, 4), 5);
        is("C: rules", x.context(2, 1), 2);
        is("E: cost", x.context(4, 0), 5);
        is("E: rules", x.context(4, 1), 3);
        is("B: of several places the least", x.context(1, 5), 0);
        no("F stands nowhere", x.context(5, 0), 6);
        x.turn(5, false);
        is("C: cost", x.context(2, 0), 5);
        is("C: rules", x.context(2, 1), 3);
        x.turn(2, false);
        no("C: another symbol of the row has no yield", x.context(2, 0), 6);
        no("B: the other B has none", x.context(1, 0), 6);
        is("D has one without a yield", x.context(3, 0), 1);
        begin(17, "A=aB|Bb|cB:0|Bc:0;B=b;");
        is("of one cost the least rule", x.context(1, 4), 2);
        begin(17, "A=aB:9|BC;B=Cb|b;C=ccc:9|dcc:9;");
        is("by the rule with the yield within", x.context(2, 0), 3);
        begin(17, "A=EEEE:9|a;E=DDDD:5|a;D=CC:0;C=b:2|B;B=BBBB|cccc:9;");
        is("within 200", x.context(2, 0), 9 + 3 * 2 + 5 + 3 * 6 + 3);
        begin(17, "A=BC:8|a;B=DDDD:0;C=c;D=EEEE:0;E=aaaa:8;");
        is("200", x.context(2, 0), 200);
        is("its rules", x.context(2, 1), 1 + 1 + 4 + 16);
        is("its letters", x.context(2, 2), 64);
        x.weigh(0, 9);
        no("201", x.context(2, 0), 6);
        is("of another one", x.context(1, 0), 11);
    }

    private static void around() {
        begin(18, "A=aBc|d;B=eCD;C=f;D=g;");
        is("left of C", x.context(2, 2), 2);
        is("right of C", x.context(2, 3), 2);
        is("around(C, left, 0)", x.around(2, false, 0), 0);
        is("around(C, left, 1)", x.around(2, false, 1), 4);
        no("around(C, left, 2)", x.around(2, false, 2), 6);
        is("around(C, right, 0)", x.around(2, true, 0), 6);
        is("around(C, right, 1)", x.around(2, true, 1), 2);
        no("around(C, right, 2)", x.around(2, true, 2), 6);
        is("around(D, left, 2)", x.around(3, false, 2), 5);
        is("around(D, right, 0)", x.around(3, true, 0), 2);
        no("about START there is nothing", x.around(0, false, 0), 6);
        no("around(C, left, -1)", x.around(2, false, -1), 1);
        no("around(8)", x.around(8, false, 0), 1);
        no("around(-1)", x.around(-1, true, 0), 1);
        no("around(4)", x.around(4, true, 0), 2);
        no("around(4, -1)", x.around(4, true, -1), 1);
        x.turn(0, false);
        no("no context", x.around(2, false, 0), 6);
    }

    private static void pair() {
        begin(19, SMALL);
        int[][] want = {{0, 1, 2, 4, 2, 1}, {0, 1, 3, 8, 3, 2}, {3, 0, 0, 8, 4, 3}, {3, 0, 1, 8, 3, 2}};
        for (int p = 0; p < 4; p++) {
            for (int what = 0; what < 6; what++) {
                is("pair(" + p + ", " + what + ")", x.pair(p, what), want[p][what]);
            }
        }
        no("pair(4, 0)", x.pair(4, 0), 6);
        no("pair(4, 6)", x.pair(4, 6), 1);
        no("pair(-1, 0)", x.pair(-1, 0), 1);
        no("pair(0, -1)", x.pair(0, -1), 1);
        no("pair(0, 6)", x.pair(0, 6), 1);
        no("pair(huge, 0)", x.pair(Integer.MAX_VALUE, 0), 6);
        x.turn(1, false);
        is("without rule 1", x.many(8), 3);
        is("cost of B in A in B", x.pair(1, 3), 8);
        is("letters then", x.pair(1, 4), 4);
        is("pairs then", x.pair(1, 5), 3);
        begin(19, "A=BBBB:0|a;B=CCCC:0|b:0;C=aaaa:8|aa:9;");
        is("each counts: its sentence is below 200", x.many(8), 4 * 2 + 4 * 2);
        x.weigh(3, 9);
        is("3 times 10, and 4 times 11", x.pair(0, 3), 30 + 44);
        x.turn(3, false);
        is("4 times 44", x.pair(0, 3), 176);
        x.weigh(5, 5);
        is("4 times 4 times 7", x.pair(0, 3), 112);
        x.turn(5, false);
        is("4 times 4 times 12", x.pair(0, 3), 192);
        x.weigh(0, 9);
        no("201 is too much", x.pairOf(0, 0, 2), 6);
        is("no pairs at all", x.many(8), 0);
        x.weigh(0, 8);
        is("200 is not", x.pair(0, 3), 200);
        is("all of them", x.many(8), 8);
        is("letters of 200", x.pair(0, 4), 64);
        is("it has all", x.pair(0, 5), 8);
    }

    private static void shown() {
        begin(20, SMALL);
        String[] want = {"ac", "abd", "aacd", "abd"};
        for (int p = 0; p < 4; p++) {
            for (int i = 0; i < want[p].length(); i++) {
                is("shown(" + p + ", " + i + ")", x.shown(p, i), want[p].charAt(i) - 'a');
            }
            no("shown(" + p + ", end)", x.shown(p, want[p].length()), 6);
        }
        is("shown(0, 1)", x.shown(0, 1), 2);
        x.turn(2, false);
        is("shown(0, 1) of another grammar", x.shown(0, 1), 1);
        x.undo();
        is("shown(0, 1) again", x.shown(0, 1), 2);
        no("shown(4, 0)", x.shown(4, 0), 6);
        no("shown(-1, 0)", x.shown(-1, 0), 1);
        no("shown(0, -1)", x.shown(0, -1), 1);
        no("shown(9, -1)", x.shown(9, -1), 1);
        no("shown(0, huge)", x.shown(0, Integer.MAX_VALUE), 6);
    }

    private static void pairOf() {
        begin(21, SMALL);
        is("pairOf(0, 1, 2)", x.pairOf(0, 1, 2), 0);
        is("pairOf(0, 1, 3)", x.pairOf(0, 1, 3), 1);
        is("pairOf(3, 0, 1)", x.pairOf(3, 0, 1), 3);
        no("a letter's place", x.pairOf(0, 0, 2), 6);
        no("behind the row", x.pairOf(0, 2, 2), 6);
        no("behind all rows", x.pairOf(0, 4, 2), 6);
        no("far behind", x.pairOf(0, Integer.MAX_VALUE, 2), 6);
        no("a rule of another symbol", x.pairOf(0, 1, 0), 6);
        no("pairOf(0, -1, 2)", x.pairOf(0, -1, 2), 1);
        no("pairOf(9, -1, 9)", x.pairOf(9, -1, 9), 1);
        no("pairOf(4, 0, 0)", x.pairOf(4, 0, 0), 2);
        no("pairOf(0, 1, 4)", x.pairOf(0, 1, 4), 2);
        no("pairOf(-1, 1, 2)", x.pairOf(-1, 1, 2), 2);
        no("pairOf(0, 1, -1)", x.pairOf(0, 1, -1), 2);
        x.turn(2, false);
        no("the rule is off", x.pairOf(0, 1, 2), 6);
        is("numbered anew", x.pairOf(0, 1, 3), 0);
    }

    private static void has() {
        begin(22, SMALL);
        int[] want = {1, 2 | 8, 1 | 2 | 4, 2 | 8};
        for (int p = 0; p < 4; p++) {
            for (int q = 0; q < 4; q++) {
                is("has(" + p + ", " + q + ")", x.has(p, q), want[p] >> q & 1);
            }
        }
        no("has(-1, 0)", x.has(-1, 0), 1);
        no("has(0, -1)", x.has(0, -1), 1);
        no("has(9, -1)", x.has(9, -1), 1);
        no("has(0, 4)", x.has(0, 4), 6);
        no("has(4, 0)", x.has(4, 0), 6);
    }

    private static void cover() {
        begin(23, SMALL);
        int[][] want = {{2, 4, 3, 2, 11}, {1, 3, 2, 1, 8}};
        for (int k = 0; k < 2; k++) {
            for (int what = 0; what < 5; what++) {
                is("cover(" + k + ", " + what + ")", x.cover(k, what), want[k][what]);
            }
        }
        no("cover(2, 0)", x.cover(2, 0), 6);
        no("cover(-1, 0)", x.cover(-1, 0), 1);
        no("cover(0, 5)", x.cover(0, 5), 1);
        no("cover(0, -1)", x.cover(0, -1), 1);
        no("cover(9, 5)", x.cover(9, 5), 1);
        no("cover(huge, 0)", x.cover(Integer.MAX_VALUE, 0), 6);
        // a sentence that was taken first is left out when later ones have all its pairs
        begin(23, "A=BCD|aD;B=b|bb|Eb;C=c|cc|Ec;D=d|E;E=e|Fe;F=f|ff|fE;");
        int pairs = x.many(8);
        int held = x.many(9);
        for (int p = 0; p < pairs; p++) {
            CHECK.holds("pair " + p + " is covered", x.by(p) >= 0 && x.has(x.cover(x.by(p), 0), p) == 1);
        }
        for (int k = 0; k < held; k++) {
            CHECK.holds("sentence " + k + " is needed", x.cover(k, 3) > 0);
        }
        CHECK.holds("no cover is below the bound", held >= x.bound());
    }

    private static void by() {
        begin(24, SMALL);
        int[] want = {0, 0, 0, 1};
        for (int p = 0; p < 4; p++) {
            is("by(" + p + ")", x.by(p), want[p]);
        }
        no("by(-1)", x.by(-1), 1);
        no("by(4)", x.by(4), 6);
        no("by(huge)", x.by(Integer.MAX_VALUE), 6);
    }

    private static void wrong() {
        begin(25, SMALL);
        String[] want = {"0b", "0c", "0d", "1b", "1c", "1d", "2a", "2d", "3a", "3b", "3c"};
        for (int i = 0; i < want.length; i++) {
            is("wrong(0, " + i + ", 0)", x.wrong(0, i, 0), want[i].charAt(0) - '0');
            is("wrong(0, " + i + ", 1)", x.wrong(0, i, 1), want[i].charAt(1) - 'a');
        }
        no("wrong(0, 11, 0)", x.wrong(0, 11, 0), 6);
        is("wrong(1, 7, 1)", x.wrong(1, 7, 1), 2);
        no("wrong(1, 8, 1)", x.wrong(1, 8, 1), 6);
        no("wrong(2, 0, 0)", x.wrong(2, 0, 0), 6);
        no("wrong(-1, 0, 0)", x.wrong(-1, 0, 0), 1);
        no("wrong(0, -1, 0)", x.wrong(0, -1, 0), 1);
        no("wrong(0, 0, 2)", x.wrong(0, 0, 2), 1);
        no("wrong(0, 0, -1)", x.wrong(0, 0, -1), 1);
        no("wrong(9, 9, 2)", x.wrong(9, 9, 2), 1);
        begin(25, "A=AA|a|b;");
        is("any letter may stand anywhere", x.cover(0, 4), 0);
        no("none is wrong", x.wrong(0, 0, 0), 6);
    }

    private static void foretells() {
        begin(26, "A=aB|BC|b|D;B=a|b|Ba;C=c|D;D=Dd;E=Ca|c;");
        is("a foretells of A", x.foretells(0, 0), 1 | 2);
        is("b foretells of A", x.foretells(0, 1), 2 | 4);
        is("a foretells of B", x.foretells(1, 0), 1 << 4 | 1 << 6);
        is("a row with a symbol that is not GOOD is not foretold", x.foretells(2, 3), 0);
        is("of a symbol that is not COME TO", x.foretells(4, 2), 1 << 10 | 1 << 11);
        is("of one that is not GOOD", x.foretells(3, 3), 0);
        is("p foretells nothing", x.foretells(0, 15), 0);
        no("foretells(8, 0)", x.foretells(8, 0), 1);
        no("foretells(-1, 0)", x.foretells(-1, 0), 1);
        no("foretells(0, 16)", x.foretells(0, 16), 1);
        no("foretells(0, -1)", x.foretells(0, -1), 1);
        no("foretells(5, 16)", x.foretells(5, 16), 1);
        no("foretells(5, 0)", x.foretells(5, 0), 2);
        x.turn(0, false);
        is("not by one that is off", x.foretells(0, 0), 2);
    }

    private static void conflicts() {
        begin(27, "A=aB|BC|b|D;B=a|b|Ba;C=c|D;D=Dd;E=Ca|c;");
        is("A by a and b, B by a and b, E by c", x.conflicts(), 5);
        x.turn(0, false);
        is("A by b alone then", x.conflicts(), 4);
        x.turn(6, false);
        is("B by none then", x.conflicts(), 2);
        Feeder.load(x, SMALL);
        is("none", x.conflicts(), 0);
        Feeder.load(x, "A=a|a|a|b;");
        is("three rules are one conflict", x.conflicts(), 1);
    }

    private static void bound() {
        begin(28);
        is("of no grammar", x.bound(), 0);
        Feeder.load(x, SMALL);
        is("pairs 0 and 3", x.bound(), 2);
        Feeder.load(x, "A=a;");
        is("no pairs", x.bound(), 0);
        Feeder.load(x, "A=BC;B=b|bb;C=c|cc;");
        is("one place, two rules: two sentences", x.bound(), 2);
        is("which is what the cover comes to, by three", x.many(9), 3 - 1);
    }

    private static void trees() {
        begin(29, AMBIGUOUS);
        long[] want = {0, 1, 0, 1, 0, 2, 0, 5, 0, 14, 0, 42, 0, 132};
        for (int n = 1; n < want.length; n++) {
            is("trees(0, " + n + ")", x.trees(0, n), want[n]);
        }
        is("trees(0, 23)", x.trees(0, 23), 58786);
        is("trees(0, 24)", x.trees(0, 24), 0);
        no("trees(0, 0)", x.trees(0, 0), 1);
        no("trees(0, 25)", x.trees(0, 25), 1);
        no("trees(0, -1)", x.trees(0, -1), 1);
        no("trees(8, 1)", x.trees(8, 1), 1);
        no("trees(-1, 1)", x.trees(-1, 1), 1);
        no("trees(1, 1)", x.trees(1, 1), 2);
        no("trees(1, 0)", x.trees(1, 0), 1);
        Feeder.load(x, "A=AA|a;");
        is("up to what can be", x.trees(0, 24), 343059613650L);
        Feeder.load(x, "A=AA|a|a;");
        is("told up to", x.trees(0, 24), 1000000000000L);
        is("below that", x.trees(0, 16), 9694845L << 16);
        is("again below", x.trees(0, 17), 1000000000000L);
        x.turn(1, false);
        is("without one that is off", x.trees(0, 24), 343059613650L);
        Feeder.load(x, "B=A|b;A=a|aa;");
        is("by a row of one symbol", x.trees(1, 1), 2);
        is("by a row of one symbol", x.trees(1, 2), 1);
        x.turn(2, false);
        x.turn(3, false);
        is("all rules off", x.trees(0, 1), 0);
    }

    private static void tree() {
        begin(30, "A=AA|a|b;");
        String[] want = {"aa", "ab", "ba", "bb"};
        for (int i = 0; i < 4; i++) {
            is("tree(0, 2, " + i + ", 0)", x.tree(0, 2, i, 0), want[i].charAt(0) - 'a');
            is("tree(0, 2, " + i + ", 1)", x.tree(0, 2, i, 1), want[i].charAt(1) - 'a');
        }
        no("tree(0, 2, 4, 0)", x.tree(0, 2, 4, 0), 6);
        no("tree(0, 2, 0, 2)", x.tree(0, 2, 0, 2), 6);
        no("tree(0, 2, huge, 0)", x.tree(0, 2, Integer.MAX_VALUE, 0), 6);
        no("tree(0, 2, 0, huge)", x.tree(0, 2, 0, Integer.MAX_VALUE), 6);
        no("tree(0, 2, -1, 0)", x.tree(0, 2, -1, 0), 1);
        no("tree(0, 2, 0, -1)", x.tree(0, 2, 0, -1), 1);
        no("tree(0, -1, 0, 0)", x.tree(0, -1, 0, 0), 1);
        no("tree(8, 2, 0, 0)", x.tree(8, 2, 0, 0), 1);
        no("tree(-1, 2, 0, 0)", x.tree(-1, 2, 0, 0), 1);
        no("tree(1, 2, 0, 0)", x.tree(1, 2, 0, 0), 2);
        no("tree(1, 2, -1, 0)", x.tree(1, 2, -1, 0), 1);
        // the first block of 24 letters has a first A of one letter, an a; its last numbers end in b
        is("tree(0, 24, 0, 23)", x.tree(0, 24, 0, 23), 0);
        is("tree(0, 24, 1, 23)", x.tree(0, 24, 1, 23), 1);
        is("tree(0, 24, 1, 22)", x.tree(0, 24, 1, 22), 0);
        is("tree(0, 24, huge, 0)", x.tree(0, 24, Integer.MAX_VALUE, 0), 0);
        is("the first", x.tree(0, 2, 0, 0), 0);
        x.turn(1, false);
        is("only b", x.tree(0, 2, 0, 0), 1);
        no("one tree alone", x.tree(0, 2, 1, 0), 6);
        x.undo();
        is("as it was", x.tree(0, 2, 1, 0), 0);
        is("as it was", x.tree(0, 2, 1, 1), 1);
    }

    private static void treeRule() {
        begin(31, AMBIGUOUS);
        int[][] want = {{0, 1, 0, 1, 1}, {0, 0, 1, 1, 1}};
        for (int i = 0; i < 2; i++) {
            for (int k = 0; k < 5; k++) {
                is("treeRule(0, 5, " + i + ", " + k + ")", x.treeRule(0, 5, i, k), want[i][k]);
            }
            no("treeRule(0, 5, " + i + ", 5)", x.treeRule(0, 5, i, 5), 6);
        }
        no("treeRule(0, 5, 2, 0)", x.treeRule(0, 5, 2, 0), 6);
        no("treeRule(0, 4, 0, 0)", x.treeRule(0, 4, 0, 0), 6);
        no("treeRule(0, 5, -1, 0)", x.treeRule(0, 5, -1, 0), 1);
        no("treeRule(0, 5, 0, -1)", x.treeRule(0, 5, 0, -1), 1);
        no("treeRule(0, -5, 0, 0)", x.treeRule(0, -5, 0, 0), 1);
        no("treeRule(8, 5, 0, 0)", x.treeRule(8, 5, 0, 0), 1);
        no("treeRule(1, 5, 0, 0)", x.treeRule(1, 5, 0, 0), 2);
        no("treeRule(1, 5, 0, -1)", x.treeRule(1, 5, 0, -1), 1);
        Feeder.load(x, "A=BC|a;B=b|C|bb;C=c|A|cc;");
        // of three letters: by B of one letter (b, C as c) and C of two (A, of two, and cc)
        is("its rule", x.treeRule(0, 3, 0, 0), 0);
        is("B=b", x.treeRule(0, 3, 0, 1), 2);
        is("C=A", x.treeRule(0, 3, 0, 2), 6);
        is("A=BC", x.treeRule(0, 3, 0, 3), 0);
        Feeder.load(x, LONG);
        is("the last rule of the longest tree", x.treeRule(0, 24, 0, 375), 8);
        no("there are no more", x.treeRule(0, 24, 0, 376), 6);
        is("its last letter", x.tree(0, 24, 0, 23), 0);
        is("of one far behind", x.treeRule(0, 24, Integer.MAX_VALUE, 375), 8);
    }

    private static void text(String letters) {
        Feeder.put(x, letters);
    }

    private static void number() {
        begin(32, "A=AA|a|b;");
        String[] made = {"aa", "ab", "ba", "bb"};
        for (int i = 0; i < 4; i++) {
            text(made[i]);
            is("number of " + made[i], x.number(2), i);
            is("the tape stays", x.drop(0), 2);
        }
        is("of its head", x.number(1), 1);
        no("number(0)", x.number(0), 1);
        no("number(-1)", x.number(-1), 1);
        no("number(3) of 2", x.number(3), 1);
        text("aaaaaaaaaaaaaaaaa");
        no("number(17)", x.number(17), 1);
        is("number(16)", x.number(16), 0);
        text("abA");
        no("a byte that is no letter", x.number(3), 4);
        is("ahead of it", x.number(2), 1);
        text("aq");
        no("q is no letter", x.number(2), 4);
        text("ac");
        no("no sentence", x.number(2), 5);
        text("bbbbbbbbbbbbbbbb");
        long[] catalan = {1, 1, 2, 5, 14, 42, 132, 429, 1430, 4862, 16796, 58786, 208012, 742900, 2674440};
        long want = 1;
        for (int n = 2; n <= 16; n++) {
            want += catalan[n - 2] << n - 1;
        }
        is("of sixteen b", x.number(16), want);
        Feeder.load(x, "A=AA|a|a|a|b;");
        text("bbbbbbbbbbbbbbbb");
        is("told up to", x.number(16), 1000000000000L);
        is("below that", x.number(2), 15);
    }

    private static void ways() {
        begin(33, AMBIGUOUS);
        text("ababababababa");
        is("in 132 ways", x.ways(13), 132);
        is("ways(5)", x.ways(5), 2);
        is("ways(4): it is none", x.ways(4), 0);
        is("ways(1)", x.ways(1), 1);
        is("the tape stays", x.drop(0), 13);
        no("ways(0)", x.ways(0), 1);
        no("ways(-1)", x.ways(-1), 1);
        no("ways(14) of 13", x.ways(14), 1);
        text("aba;");
        no("a byte that is no letter", x.ways(4), 4);
        text("ap");
        is("p is a letter", x.ways(2), 0);
        text("ab`");
        no("the byte ahead of a is none", x.ways(3), 4);
        Feeder.load(x, "A=AA|a;");
        text("aaaaaaaaaaaaaaaaa");
        no("ways(17)", x.ways(17), 1);
        is("a million at most", x.ways(16), 1000000);
        is("742900", x.ways(14), 742900);
        Feeder.load(x, "A=B|a|C;B=a|C;C=a|a;");
        text("a");
        is("a, B, C each", x.ways(1), 1 + 3 + 2);
        x.start(2);
        is("by another START", x.ways(1), 2);
        x.turn(5, false);
        x.turn(6, false);
        is("it has no tree", x.ways(1), 0);
    }

    private static void parse() {
        begin(34, AMBIGUOUS);
        text("ababa");
        is("parse(5)", x.parse(5), 5);
        is("parse(3)", x.parse(3), 3);
        is("parse(1)", x.parse(1), 1);
        is("the tape stays", x.drop(0), 5);
        no("parse(4)", x.parse(4), 5);
        no("parse(6)", x.parse(6), 1);
        no("parse(0)", x.parse(0), 1);
        no("parse(-9)", x.parse(-9), 1);
        text("ab?");
        no("a byte that is no letter", x.parse(3), 4);
        text("abababababababab");
        no("parse(17)", x.parse(17), 1);
        no("parse(16)", x.parse(16), 5);
        is("parse(15)", x.parse(15), 15);
        Feeder.load(x, LONG);
        text("aaaaaaaaaaaaaaaa");
        is("the longest tree", x.parse(16), 248);
        is("its last rule", x.parsed(16, 247), 8);
        is("its number", x.number(16), 0);
        is("in how many ways", x.ways(16), 1000000);
    }

    private static void parsed() {
        begin(35, AMBIGUOUS);
        text("ababa");
        int[] want = {0, 1, 0, 1, 1};
        for (int i = 0; i < 5; i++) {
            is("parsed(5, " + i + ")", x.parsed(5, i), want[i]);
        }
        no("parsed(5, 5)", x.parsed(5, 5), 6);
        no("parsed(5, -1)", x.parsed(5, -1), 1);
        no("parsed(6, 0)", x.parsed(6, 0), 1);
        no("parsed(4, 0)", x.parsed(4, 0), 5);
        no("parsed(4, 9)", x.parsed(4, 9), 5);
        text("aB");
        no("a byte that is no letter", x.parsed(2, 0), 4);
        no("parsed(2, -1)", x.parsed(2, -1), 1);
        is("the tape stays", x.drop(0), 2);
        // the least rule that can, though it is not the first that is told for the start
        Feeder.load(x, "A=Bb|BC;B=a|aa|aab;C=b|ab|c;");
        text("aab");
        is("A=Bb", x.parsed(3, 0), 0);
        is("B=aa", x.parsed(3, 1), 3);
        x.turn(0, false);
        is("A=BC", x.parsed(3, 0), 1);
        is("as few as can be: B=a", x.parsed(3, 1), 2);
        is("C=ab", x.parsed(3, 2), 6);
        no("three rules", x.parsed(3, 3), 6);
        x.turn(2, false);
        is("B=aa", x.parsed(3, 1), 3);
        is("C=b", x.parsed(3, 2), 5);
    }

    private static void shrink() {
        begin(36, AMBIGUOUS);
        text("ababa");
        is("by A=a", x.shrink(5, 1), 1);
        is("by A=AbA", x.shrink(5, 0), 3);
        is("of its head", x.shrink(1, 1), 1);
        is("the tape stays", x.drop(0), 5);
        is("as it was", x.parse(5), 5);
        no("the rule is not in its own tree", x.shrink(1, 0), 5);
        no("no sentence", x.shrink(4, 0), 5);
        no("shrink(6, 0)", x.shrink(6, 0), 1);
        no("shrink(0, 0)", x.shrink(0, 0), 1);
        no("shrink(0, 9)", x.shrink(0, 9), 1);
        no("shrink(5, 2)", x.shrink(5, 2), 2);
        no("shrink(5, -1)", x.shrink(5, -1), 2);
        text("ab!");
        no("a rule that is not there comes ahead of a byte", x.shrink(3, 2), 2);
        no("a byte that is no letter", x.shrink(3, 0), 4);
        text("ababababababababa");
        no("shrink(17, 0)", x.shrink(17, 0), 1);
        text("ababa");
        x.turn(0, false);
        no("off it is in no tree", x.shrink(5, 0), 5);
        x.undo();
        is("back again", x.shrink(5, 0), 3);
        Feeder.load(x, "A=AbA|a|B;B=ba|bab;");
        text("ababa");
        is("by another grammar of as many rules and more", x.shrink(5, 0), 3);
        Feeder.load(x, "A=aB;B=baba|bb;");
        text("ababa");
        is("by a third one", x.shrink(5, 0), 5);
        x.weigh(0, 5);
        is("weights change nothing", x.shrink(5, 0), 5);
        Feeder.load(x, "A=aB|bB;B=baba|ba;");
        text("ababa");
        is("it gets shorter", x.shrink(5, 0), 3);
        x.turn(3, false);
        is("but not without B=ba", x.shrink(5, 0), 5);
        text("bbaba");
        no("nor if only its first letter is another one", x.shrink(5, 0), 5);
        is("by the other rule", x.shrink(5, 1), 5);
    }

    private static void shrunk() {
        begin(37, "A=AA|a|b|c;");
        text("abc");
        is("the first of the longest goes", x.shrunk(3, 0, 0), 1);
        is("and the rest stays", x.shrunk(3, 0, 1), 2);
        no("two letters", x.shrunk(3, 0, 2), 6);
        is("by A=b", x.shrunk(3, 2, 0), 1);
        no("one letter", x.shrunk(3, 2, 1), 6);
        is("by A=a", x.shrunk(3, 1, 0), 0);
        is("by A=c", x.shrunk(3, 3, 0), 2);
        no("shrunk(3, 0, -1)", x.shrunk(3, 0, -1), 1);
        no("shrunk(4, 0, 0)", x.shrunk(4, 0, 0), 1);
        no("shrunk(0, 0, 0)", x.shrunk(0, 0, 0), 1);
        no("shrunk(3, 4, 0)", x.shrunk(3, 4, 0), 2);
        no("shrunk(3, 4, -1)", x.shrunk(3, 4, -1), 1);
        no("shrunk(1, 0, 0)", x.shrunk(1, 0, 0), 5);
        no("shrunk(3, 0, huge)", x.shrunk(3, 0, Integer.MAX_VALUE), 6);
        is("the tape stays", x.drop(0), 3);
        text("ac.");
        no("a byte that is no letter", x.shrunk(3, 0, 0), 4);
        text("aad");
        no("no sentence", x.shrunk(3, 0, 0), 5);
        // the longest part goes first, though a shorter one (ab, then de) would lead to less
        Feeder.load(x, "A=B;B=abC|abf|cdef|cf;C=cdef;");
        text("abcdef");
        is("cde goes, and nothing more", x.shrink(6, 0), 3);
        is("a", x.shrunk(6, 0, 0), 0);
        is("b", x.shrunk(6, 0, 1), 1);
        is("f", x.shrunk(6, 0, 2), 5);
        is("by B=abC all stays", x.shrink(6, 1), 6);
        is("of cdef de goes", x.shrunk(6, 5, 5), 5);
        Feeder.load(x, "A=BC|cc;B=bb|b;C=c|Cd;");
        text("bbcdd");
        is("dd goes, then b", x.shrink(5, 0), 2);
        is("b", x.shrunk(5, 0, 0), 1);
        is("c", x.shrunk(5, 0, 1), 2);
    }

    private static void drop() {
        begin(38);
        is("drop(0)", x.drop(0), 0);
        no("drop(1)", x.drop(1), 1);
        no("drop(-1)", x.drop(-1), 1);
        Feeder.feed(x, "A=ab;");
        is("drop(15)", x.drop(15), 5);
        no("drop(6)", x.drop(6), 1);
        is("drop(0)", x.drop(0), 5);
        Feeder.feed(x, "B=c;");
        is("the next come behind what is left", x.load(9), 2);
        is("the tape is empty", x.drop(0), 0);
        x.feed(1, 2, 3, 4, 5);
        is("drop(20)", x.drop(20), 0);
        no("drop(huge)", x.drop(Integer.MAX_VALUE), 1);
        no("drop(least)", x.drop(Integer.MIN_VALUE), 1);
    }

    public static void main(String[] args) {
        newObject();
        status();
        feed();
        load();
        fault();
        turn();
        weigh();
        start();
        undo();
        many();
        rule();
        sign();
        ends();
        beside();
        yields();
        yielded();
        context();
        around();
        pair();
        shown();
        pairOf();
        has();
        cover();
        by();
        wrong();
        foretells();
        conflicts();
        bound();
        trees();
        tree();
        treeRule();
        number();
        ways();
        parse();
        parsed();
        shrink();
        shrunk();
        drop();
        CHECK.close("PromisesTest");
    }
}
