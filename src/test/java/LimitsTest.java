import java.util.ArrayList;
import java.util.List;
import java.util.Random;

/** The limits that the document's Terms name: the last that is within each, and the first that is not. */
public final class LimitsTest {
    private static final int NONE = SentenceMaker.NONE;
    private static final long MOST_TREES = 1000000000000L;
    private static final String SIXTEEN = "A=a|a|a|a|a|a|a|a|a|a|a|a|a|a|a|a";
    private static final String SIGNS = "ABCDEFGHabcdefghijklmnop";

    private static final Check CHECK = new Check();
    private static SentenceMaker x = new SentenceMaker();

    private LimitsTest() {
    }

    private static void load(String text, int rules) {
        x = new SentenceMaker();
        CHECK.due("load of " + text, Feeder.load(x, text), rules);
        CHECK.due("STATUS of " + text, x.status(), 0);
        CHECK.due("no FAULT in " + text, x.fault(0), 0);
        CHECK.due("no place of a FAULT in " + text, x.fault(1), NONE);
    }

    private static void fault(String text, int kind, int place) {
        x = new SentenceMaker();
        CHECK.due("load of " + text, Feeder.load(x, text), NONE);
        CHECK.due("STATUS of " + text, x.status(), 7);
        CHECK.due("FAULT of " + text, x.fault(0), kind);
        CHECK.due("place in " + text, x.fault(1), place);
        CHECK.due("no RULES of " + text, x.many(0), 0);
        CHECK.due("no ACT by " + text, x.many(10), 0);
    }

    private static void is(String call, long got, long want) {
        CHECK.due(call, got, want);
        CHECK.due("STATUS of " + call, x.status(), 0);
    }

    private static void no(String call, long got, int status) {
        CHECK.due(call, got, NONE);
        CHECK.due("STATUS of " + call, x.status(), status);
    }

    private static String times(String text, int n) {
        return text.repeat(n);
    }

    /** SYMBOLS A to H, numbers 0 to 7; LETTERS a to p, 0 to 15, as signs 16 to 31, as bits a is 1. */
    private static void symbolsAndLetters() {
        for (int s = 0; s < 8; s++) {
            load((char) ('A' + s) + "=a" + (char) ('A' + s) + "|b;", 2);
            is("its SYMBOL", x.rule(0, 0), s);
            is("START", x.many(2), s);
            is("TOLD", x.many(3), 1 << s);
            is("GOOD", x.many(4), 1 << s);
            is("the SIGN", x.sign(0, 1), s);
        }
        for (int l = 0; l < 16; l++) {
            load("A=" + (char) ('a' + l) + ";", 1);
            is("the SIGN", x.sign(0, 0), 16 + l);
            is("LETTERS", x.many(7), 1 << l);
            is("FIRST", x.ends(0, 0), 1 << l);
            is("LAST", x.ends(0, 1), 1 << l);
            is("YIELD", x.yielded(0, 0), l);
            is("begins", x.beside(NONE), 1 << l);
        }
        fault("@=a;", 1, 0);
        fault("I=a;", 1, 0);
        fault("A=@;", 1, 2);
        fault("A=I;", 1, 2);
        fault("A=`;", 1, 2);
        fault("A=q;", 1, 2);
    }

    /** RULES, at most 16, numbered from 0 on as they were told; the FAULT is at the first SIGN of the 17th. */
    private static void rules() {
        load(SIXTEEN + ";", 16);
        load("A=a;B=b;C=c;D=d;E=e;F=f;G=g;H=h|i|j|k|l|m|n|o|p;", 16);
        for (int r = 0; r < 16; r++) {
            is("SYMBOL of RULE " + r, x.rule(r, 0), Math.min(r, 7));
            is("SIGN of RULE " + r, x.sign(r, 0), 16 + r);
        }
        load("H=p;A=o|n;C=m;", 4);
        is("numbered as told", x.sign(3, 0), 28);
        is("not by its SYMBOL", x.rule(0, 0), 7);
        fault(SIXTEEN + "|b;", 5, 34);
        fault(SIXTEEN + "|bbbbb;", 5, 34);
        fault(SIXTEEN + "|B;", 5, 34);
        fault(SIXTEEN + "| \n b;", 5, 37);
        fault(SIXTEEN + ";B=b;", 5, 36);
        fault(SIXTEEN + "|", 2, 34);
        fault(SIXTEEN + ";B=", 2, 36);
        fault(SIXTEEN + ";B=;", 2, 36);
        fault(SIXTEEN + ";B=?", 1, 36);
        fault(SIXTEEN + ";A=b;", 3, 34);
        fault(SIXTEEN + "bbbb;", 4, 36);
    }

    /** A row of one to four SIGNS. */
    private static void signs() {
        String four = "pBaB";
        for (int n = 1; n <= 4; n++) {
            load("A=" + four.substring(0, n) + ";B=b;", 2);
            is("SIGNS", x.rule(0, 1), n);
            is("the last one", x.sign(0, n - 1), n % 2 == 0 ? 1 : n == 1 ? 31 : 16);
            no("behind it", x.sign(0, n), 6);
        }
        fault("A=;", 2, 2);
        fault("A=a|;", 2, 4);
        fault("A=|a;", 2, 2);
        fault("A=:1;", 2, 2);
        fault("A=aaaaa;", 4, 6);
        fault("A=aaaaA;", 4, 6);
        fault("A=aaaa a;", 4, 7);
        fault("A=a|aaaaa;", 4, 8);
        fault("A=aaaa;B=aaaaaaa;", 4, 13);
        load("A=aaaa|bbbb:2|cccc;B=dddd;", 4);
    }

    /** A WEIGHT of one digit, 1 without. */
    private static void weights() {
        for (int w = 0; w <= 9; w++) {
            load("A=a:" + w + "|b;B=c|d:" + w + ";", 4);
            is("WEIGHT " + w, x.rule(0, 2), w);
            is("without", x.rule(1, 2), 1);
            is("without", x.rule(2, 2), 1);
            is("WEIGHT " + w, x.rule(3, 2), w);
            is("COST", x.yields(0, 0), Math.min(1 + w, 2));
        }
        fault("A=a:10;", 2, 5);
        fault("A=a:1 0;", 2, 6);
        fault("A=a:;", 2, 4);
        fault("A=a:|b;", 2, 4);
        fault("A=a:1:1;", 2, 5);
        fault("A=a:1b;", 2, 5);
        fault("A=a1;", 2, 3);
    }

    /** A TEXT of at most 400 bytes: the 400th counts, and a FAULT at the end has its length as its place. */
    private static void textLength() {
        load("A=a" + times(" ", 396) + ";", 1);
        load(times("\n", 396) + "A=a;", 1);
        fault("A=a;" + times(" ", 395) + "?", 1, 399);
        fault("A=a" + times(" ", 397), 2, 400);
        fault("A=B;" + times(" ", 396), 6, 400);
        fault("A=A;" + times("\n", 396), 7, 400);
        fault(times(" ", 400), 2, 400);
        x = new SentenceMaker();
        Feeder.feed(x, times(" ", 400));
        CHECK.due("more than 400 are not taken", x.feed(0, 0, 0, 0, 0), NONE);
        no("nor loaded", x.load(401), 1);
    }

    /** Blanks (10, 32) may stand anywhere, and no other byte may that stands in no TEXT. */
    private static void blanks() {
        String text = "B=cA:5|p;A=d;";
        for (int at = 0; at <= text.length(); at++) {
            for (String blank : new String[] {" ", "\n", " \n\n  "}) {
                load(text.substring(0, at) + blank + text.substring(at), 3);
                is("START", x.many(2), 1);
                is("SIGNS", x.rule(0, 1), 2);
                is("SIGN", x.sign(0, 1), 0);
                is("WEIGHT", x.rule(0, 2), 5);
                is("WEIGHT", x.rule(1, 2), 1);
                is("SIGN", x.sign(2, 0), 19);
            }
            for (int other : new int[] {0, 9, 11, 12, 13, 31, 33, 127, 128, 138, 160, 255}) {
                fault(text.substring(0, at) + (char) other + text.substring(at), 1, at);
            }
        }
    }

    /** TEXT: one LINE or more. */
    private static void lines() {
        fault("", 2, 0);
        fault(" ", 2, 1);
        fault("\n \n", 2, 3);
        load("A=a;", 1);
        load("A=a;B=a;C=a;D=a;E=a;F=a;G=a;H=a;", 8);
        fault("A=a;B=a;C=a;D=a;E=a;F=a;G=a;H=a;A=a;", 3, 32);
    }

    /** After a head every byte is looked at: those in may can stand there, the others are of some kind. */
    private static void nextByte(String head, String may, int ofSigns, boolean whole) {
        for (int b = 0; b < 256; b++) {
            boolean blank = b == 10 || b == 32;
            boolean known = SIGNS.indexOf(b) >= 0 || "0123456789=|;:".indexOf(b) >= 0;
            String text = head + (char) b;
            if (!blank && !known) {
                fault(text, 1, head.length());
            } else if (!blank && may.indexOf(b) < 0) {
                fault(text, SIGNS.indexOf(b) >= 0 ? ofSigns : 2, head.length());
            } else if (blank ? whole : b == ';') {
                load(text, head.startsWith(SIXTEEN) ? 16 : head.split("[|;]").length);
            } else {
                fault(text, 2, text.length());
            }
        }
    }

    /** FAULTS 1 to 5: which bytes can stand where. */
    private static void bytes() {
        String digits = "0123456789";
        nextByte("", "ABCDEFGH", 2, false);
        nextByte("A", "=", 2, false);
        nextByte("A=", SIGNS, 2, false);
        nextByte("A=a", SIGNS + "|;:", 2, false);
        nextByte("A=aa", SIGNS + "|;:", 2, false);
        nextByte("A=aaa", SIGNS + "|;:", 2, false);
        nextByte("A=aaaa", "|;:", 4, false);
        nextByte("A=a|", SIGNS, 2, false);
        nextByte("A=a|b", SIGNS + "|;:", 2, false);
        nextByte("A=a:", digits, 2, false);
        nextByte("A=a:9", "|;", 2, false);
        nextByte("A=aaaa:", digits, 2, false);
        nextByte("A=aaaa:0", "|;", 2, false);
        nextByte("A=a:1|", SIGNS, 2, false);
        nextByte(SIXTEEN, SIGNS + "|;:", 2, false);
        nextByte(SIXTEEN + "|", "", 5, false);
        for (int b = 'A'; b <= 'H'; b++) {
            fault("B=a;" + (char) b, b == 'B' ? 3 : 2, b == 'B' ? 4 : 5);
        }
        for (int b = 'a'; b <= 'p'; b++) {
            fault("B=a;" + (char) b, 2, 4);
        }
        for (char b : (digits + "=|;:").toCharArray()) {
            fault("B=a;" + b, 2, 4);
        }
        load("B=a; ", 1);
        load("B=a;\n", 1);
    }

    /** The first FAULT along the text, of one byte the least kind; 6 and 7 come at the end alone, 6 ahead of 7. */
    private static void firstFault() {
        fault("A=a;;?", 2, 4);
        fault("A=?;;", 1, 2);
        fault("A=aaaaa?", 4, 6);
        fault("A=a;A=?", 3, 4);
        fault("A=a;A?", 3, 4);
        fault("A=B;A=b;", 3, 4);
        fault("A=A;?", 1, 4);
        fault("A=B;B", 2, 5);
        fault("A=A|B;", 6, 6);
        fault("A=A;B=H;", 6, 8);
        fault("A=A;B=b;", 7, 8);
    }

    /** FAULT 6: a SYMBOL in a ROW that is not TOLD, wherever it stands; one may be TOLD behind. */
    private static void notTold() {
        for (int s = 1; s < 8; s++) {
            char symbol = (char) ('A' + s);
            fault("A=" + symbol + ";", 6, 4);
            fault("A=a|abc" + symbol + "; ", 6, 10);
            load("A=a|abc" + symbol + ";" + symbol + "=b;", 3);
        }
        load("A=aA|a;", 2);
        fault("B=A;C=A|b;", 6, 10);
    }

    /** FAULT 7: a RING by ROWS of one SYMBOL alone, of one SYMBOL up to all eight. */
    private static void rings() {
        for (int n = 1; n <= 8; n++) {
            StringBuilder chain = new StringBuilder();
            for (int s = 0; s < n; s++) {
                chain.append((char) ('A' + s)).append("=a|").append((char) ('A' + (s + 1) % n)).append(';');
            }
            fault(chain.toString(), 7, chain.length());
            fault(chain + "\n", 7, chain.length() + 1);
            String open = chain.substring(0, chain.length() - 2);
            load(open + "b;", 2 * n);
            load(open + "aA;", 2 * n);
            load(open + "Aa;", 2 * n);
            load(open + "AA;", 2 * n);
        }
        fault("A=a;B=C:9|b;C=B:0|c;", 7, 20);
        load("A=BB;B=AA|a;", 3);
        load("A=B|C;B=C|D;C=D;D=d;", 6);
    }

    /** START is the SYMBOL of the first LINE, and all RULES are ON, whatever was ahead of it. */
    private static void loadedAnew() {
        load("A=aB|b;B=b;", 3);
        x.start(1);
        x.turn(0, false);
        x.turn(2, false);
        x.weigh(1, 9);
        is("another one", Feeder.load(x, "C=cA;A=aC|b;"), 3);
        is("START", x.many(2), 2);
        is("ON", x.many(1), 7);
        is("TOLD", x.many(3), 5);
        is("WEIGHT", x.rule(1, 2), 1);
        is("undone", x.undo(), 5);
        is("START", x.many(2), 1);
        is("ON", x.many(1), 2);
        is("TOLD", x.many(3), 3);
        is("WEIGHT", x.rule(1, 2), 9);
    }

    /** A SYMBOL is TOLD if it has a RULE, ON or off. */
    private static void toldWhenOff() {
        load("A=a;H=b;", 2);
        x.turn(0, false);
        x.turn(1, false);
        is("none is ON", x.many(1), 0);
        is("both are TOLD", x.many(3), 129);
        is("none is GOOD", x.many(4), 0);
        is("START is COME TO", x.many(5), 1);
        is("FIRST", x.ends(7, 0), 0);
        is("foretells", x.foretells(7, 1), 0);
        is("trees", x.trees(7, 1), 0);
        no("YIELD", x.yields(7, 0), 6);
        no("CONTEXT", x.context(7, 0), 6);
        is("CONTEXT of START", x.context(0, 0), 0);
        is("START", x.start(7), 0);
        is("CONTEXT of START", x.context(7, 0), 0);
        no("CONTEXT of what is START no more", x.context(0, 0), 6);
    }

    /** The latest 8 ACTS can be undone, however many there were, and an undo is none. */
    private static void acts() {
        for (int n = 0; n <= 20; n++) {
            load("A=a:0;", 1);
            for (int i = 1; i <= n; i++) {
                is("weigh", x.weigh(0, i % 10), (i - 1) % 10);
                is("can be undone", x.many(10), Math.min(i + 1, 8));
            }
            int can = Math.min(n + 1, 8);
            for (int i = 1; i <= can; i++) {
                is("undo " + i + " of " + n, x.undo(), can - i);
                is("can be undone still", x.many(10), can - i);
                if (i > n) {
                    is("no RULES", x.many(0), 0);
                } else {
                    is("WEIGHT", x.rule(0, 2), (n - i) % 10);
                }
            }
            no("none is left of " + n, x.undo(), 6);
        }
    }

    private static void actsAndUndos(int seed) {
        Random random = new Random(seed);
        load("A=a:0|b:0;B=b;", 3);
        List<int[]> past = new ArrayList<>();
        past.add(null);
        int[] now = {0, 7, 0};
        for (int i = 0; i < 100; i++) {
            int[] next = now.clone();
            switch (random.nextInt(5)) {
                case 0:
                    next[0] = random.nextInt(10);
                    CHECK.due("weigh", x.weigh(1, next[0]), next[0] == now[0] ? NONE : now[0]);
                    break;
                case 1:
                    next[1] ^= 4;
                    CHECK.due("turn", x.turn(2, next[1] == 7), Integer.bitCount(next[1]));
                    break;
                case 2:
                    next[2] = random.nextInt(2);
                    CHECK.due("start", x.start(next[2]), next[2] == now[2] ? NONE : now[2]);
                    break;
                default:
                    if (past.size() > 1 || past.size() == 1 && past.get(0) != null) {
                        next = past.remove(past.size() - 1);
                        CHECK.due("undo", x.undo(), past.size());
                        now = next;
                    }
                    break;
            }
            if (next[0] != now[0] || next[1] != now[1] || next[2] != now[2]) {
                past.add(now);
                now = next;
                if (past.size() > 8) {
                    past.remove(0);
                }
            }
            CHECK.due("WEIGHT", x.rule(1, 2), now[0]);
            CHECK.due("ON", x.many(1), now[1]);
            CHECK.due("START", x.many(2), now[2]);
            CHECK.due("ACTS", x.many(10), past.size());
        }
    }

    /** Each kind of ACT is undone by itself. */
    private static void eachAct() {
        load("A=aB;B=b|c;", 3);
        is("turn", x.turn(2, false), 2);
        is("undone", x.undo(), 1);
        is("ON", x.many(1), 7);
        is("weigh", x.weigh(2, 9), 1);
        is("undone", x.undo(), 1);
        is("WEIGHT", x.rule(2, 2), 1);
        is("start", x.start(1), 0);
        is("undone", x.undo(), 1);
        is("START", x.many(2), 0);
        Feeder.load(x, "H=h;");
        is("undone", x.undo(), 1);
        is("RULES", x.many(0), 3);
        is("SIGN", x.sign(0, 1), 1);
        is("START", x.many(2), 0);
        is("undone", x.undo(), 0);
        is("RULES", x.many(0), 0);
        is("START", x.many(2), 0);
        is("TOLD", x.many(3), 0);
    }

    /** COST 200 at most: of a YIELD, with 200 LETTERS; of PAIRS, each with that same tree. */
    private static void costOfYields() {
        load("A=DEG:0;D=EE:0;E=FF:0;F=GGGG:0;G=HHHH:0;H=aa:0;", 6);
        is("COST", x.yields(0, 0), 200);
        is("LETTERS", x.yields(0, 2), 200);
        is("RULES", x.yields(0, 1), 1 + 1 + 3 + 3 * 2 + (6 * 4 + 1) + (6 * 4 + 1) * 4);
        is("the last LETTER", x.yielded(0, 199), 0);
        no("behind it", x.yielded(0, 200), 6);
        is("PAIRS", x.many(8), 3 + 2 + 2 + 4 + 4);
        for (int p = 0; p < 15; p++) {
            is("COST of PAIR " + p, x.pair(p, 3), 200);
            is("LETTERS of PAIR " + p, x.pair(p, 4), 200);
            is("PAIRS of PAIR " + p, x.pair(p, 5), 15);
            is("its last LETTER", x.shown(p, 199), 0);
            no("behind it", x.shown(p, 200), 6);
        }
        is("COVER", x.many(9), 1);
        is("LETTERS", x.cover(0, 1), 200);
        x.weigh(0, 1);
        no("COST 201", x.yields(0, 0), 6);
        no("its LETTERS", x.yielded(0, 0), 6);
        is("of another SYMBOL", x.yields(3, 0), 128);
        is("no PAIRS", x.many(8), 0);
        no("not one", x.pair(0, 0), 6);
        no("nor by its RULES", x.pairOf(0, 0, 1), 6);
        is("no COVER", x.many(9), 0);
        is("BOUND", x.bound(), 0);
        is("GOOD all the same", x.many(4), 1 | 8 | 16 | 32 | 64 | 128);
        is("USED all the same", x.many(6), 63);
    }

    /** The least COST counts: a dearer tree is not taken because another one is above 200. */
    private static void costOfOne() {
        load("A=DEG:0|Aa;D=EE:0;E=FF:0;F=GGGG:0;G=HHHH:0;H=aa:0;", 7);
        is("COST", x.yields(0, 0), 200);
        is("its RULE", x.yields(0, 3), 0);
        x.weigh(0, 1);
        no("of COST 201 none, nor by a RULE with it", x.yields(0, 0), 6);
        x.undo();
        x.weigh(1, 0);
        is("by A=Aa it were 201", x.yields(0, 3), 0);
        no("so that PAIR does not count", x.pairOf(1, 0, 0), 6);
        is("PAIRS", x.many(8), 15);
    }

    /** COST 200 at most of a CONTEXT, all of it LETTERS to the left, or to the right. */
    private static void costOfContexts() {
        load("A=DEGB:0|Ba;B=b:0;D=EE:0;E=FF:0;F=GGGG:0;G=HHHH:0;H=aa:0;", 8);
        is("the cheaper one", x.context(1, 0), 2);
        x.turn(1, false);
        is("COST", x.context(1, 0), 200);
        is("LEFT", x.context(1, 2), 200);
        is("RIGHT", x.context(1, 3), 0);
        is("its last LETTER", x.around(1, false, 199), 0);
        no("behind it", x.around(1, false, 200), 6);
        is("its RULE", x.context(1, 4), 0);
        is("its place", x.context(1, 5), 3);
        no("with it the SENTENCE is of COST 201", x.pairOf(0, 3, 2), 6);
        x.weigh(0, 1);
        no("COST 201", x.context(1, 0), 6);
        no("LEFT of it", x.around(1, false, 0), 6);
        load("A=BDEG:0;B=b:0;D=EE:0;E=FF:0;F=GGGG:0;G=HHHH:0;H=aa:0;", 7);
        is("COST", x.context(1, 0), 200);
        is("LEFT", x.context(1, 2), 0);
        is("RIGHT", x.context(1, 3), 200);
        is("its last LETTER", x.around(1, true, 199), 0);
        no("behind it", x.around(1, true, 200), 6);
        x.weigh(0, 1);
        no("COST 201", x.context(1, 0), 6);
        no("RIGHT of it", x.around(1, true, 0), 6);
    }

    /** COST 200 at most of a PAIR's SENTENCE: one PAIR counts, the next does not. */
    private static void costOfPairs() {
        load("A=DEHB:5;B=b:0|bb:0;D=EE:0;E=FFFF:0;F=GG:0;G=HHHH:0;H=aa:0;", 8);
        is("COST of CONTEXT", x.context(1, 0), 199);
        is("PAIR of COST 200", x.pair(x.pairOf(0, 3, 1), 3), 200);
        no("of COST 201", x.pairOf(0, 3, 2), 6);
        is("PAIRS", x.many(8), 3 + 1 + 2 + 4 + 2 + 4);
        is("it is USED all the same", x.many(6), 255);
        x.weigh(0, 4);
        is("of COST 200 now", x.pair(x.pairOf(0, 3, 2), 3), 200);
        is("PAIRS", x.many(8), 3 + 2 + 2 + 4 + 2 + 4);
        x.weigh(0, 6);
        no("of COST 201 now", x.pairOf(0, 3, 1), 6);
        is("none is left", x.many(8), 0);
    }

    /** There can be 960 PAIRS: of 15 RULES four places each, 16 RULES in each. */
    private static void mostPairs() {
        load("A=" + times("AAAA|", 15) + "a;", 16);
        is("PAIRS", x.many(8), 960);
        is("the last one", x.pair(959, 0), 14);
        is("its place", x.pair(959, 1), 3);
        is("its second RULE", x.pair(959, 2), 15);
        no("behind it", x.pair(960, 0), 6);
        no("behind it", x.shown(960, 0), 6);
        no("behind it", x.by(960), 6);
        no("behind it", x.has(959, 960), 6);
        no("behind it", x.has(960, 959), 6);
        is("by its RULES", x.pairOf(14, 3, 15), 959);
        is("by the last RULE alone", x.pairOf(0, 0, 15), 15);
        is("the first one", x.pairOf(0, 0, 0), 0);
        is("it HAS itself", x.has(959, 959), 1);
        // A=AAAA in a place of A=AAAA: seven A=a, three of them in the other places
        is("LETTERS", x.pair(0, 4), 7);
        is("COST", x.pair(0, 3), 7 + 2 + 7);
        // each RULE within each, in each place, has a SENTENCE of its own; those with A=a are had by these
        is("COVER", x.many(9), 15 * 4 * 15);
    }

    /** The last RULE has SYMBOLS in all its places; and the 65th PAIR is had as the others are. */
    private static void lastPairs() {
        load("A=a" + times("|AAAA", 15) + ";", 16);
        is("PAIRS", x.many(8), 960);
        is("the last one", x.pairOf(15, 3, 15), 959);
        is("with A=a in each other place", x.pair(959, 5), 5);
        int last = x.pairOf(15, 3, 0);
        is("with A=a in each place", x.pair(last, 5), 4);
        for (int place = 0; place < 4; place++) {
            is("it HAS that in place " + place, x.has(last, x.pairOf(15, place, 0)), 1);
        }
        is("but not of another RULE", x.has(last, x.pairOf(14, 3, 0)), 0);
        is("COVER", x.many(9), 15 * 4 * 15);
        // aaaa by RULE 1 is taken, and so is nothing that goes with it: no other place of RULE 1, RULE 1 within no RULE;
        // what is left are RULES 2 to 15 in the first place of RULE 1 and in each place of each of them
        is("BOUND", x.bound(), 1 + 14 + 14 * 4 * 14);
        load("A=BBBB|BBBB|cB;B=C|b|b|b|b|b|b;C=D;D=d;", 12);
        is("PAIRS", x.many(8), 9 * 7 + 2);
        is("the last one", x.pairOf(10, 0, 11), 64);
        for (int p = 0; p < 63; p += 7) {
            is("in a SENTENCE with B=C it is", x.has(p, 64), 1);
            is("in one without it is not", x.has(p + 1, 64), 0);
        }
        is("PAIRS", x.pair(0, 5), 4 + 2);
        is("in its own", x.has(64, 64), 1);
    }

    /** PAIRS are numbered by the first RULE, the place, the second RULE. */
    private static void pairOrder() {
        load("B=CA|b;A=a|c;C=A|B;", 6);
        int[][] want = {{0, 0, 4}, {0, 0, 5}, {0, 1, 2}, {0, 1, 3}, {4, 0, 2}, {4, 0, 3}, {5, 0, 0}, {5, 0, 1}};
        is("PAIRS", x.many(8), want.length);
        for (int p = 0; p < want.length; p++) {
            for (int what = 0; what < 3; what++) {
                is("PAIR " + p, x.pair(p, what), want[p][what]);
            }
            is("found", x.pairOf(want[p][0], want[p][1], want[p][2]), p);
        }
    }

    /** Of several YIELDS of one COST that with the fewest RULES, of these that of the least RULE. */
    private static void sameCost() {
        load("A=B:0|aa:1|bb:1|c:9;B=aaa:0;", 5);
        is("by one RULE, not by two", x.yields(0, 3), 1);
        is("RULES", x.yields(0, 1), 1);
        x.weigh(1, 2);
        is("the next of that COST", x.yields(0, 3), 2);
        x.weigh(2, 2);
        is("the one by two RULES", x.yields(0, 3), 0);
        is("RULES", x.yields(0, 1), 2);
        load("A=BB:0|aBb:0|cBc:0;B=b:1;", 4);
        is("of one COST by fewer RULES", x.context(1, 4), 1);
        is("COST", x.context(1, 0), 2);
        is("RULES", x.context(1, 1), 1);
        x.weigh(1, 1);
        is("of as many by the least RULE", x.context(1, 4), 2);
        x.weigh(2, 1);
        is("the least COST, though by more RULES", x.context(1, 4), 0);
        is("RULES", x.context(1, 1), 2);
        load("A=BB:0|BB:0;B=b;", 3);
        is("the least RULE", x.context(1, 4), 0);
        is("the least place", x.context(1, 5), 0);
    }

    /** Eight SYMBOLS, each with the next in its one row, the last with a; the row is told with X for the next. */
    private static void chain(String row, boolean upward) {
        StringBuilder text = new StringBuilder();
        for (int i = 0; i < 8; i++) {
            int s = upward ? 7 - i : i;
            String next = "" + (char) ('A' + s + 1);
            text.append((char) ('A' + s)).append('=').append(s == 7 ? "a" : row.replace("X", next)).append(';');
        }
        load(text.toString(), 8);
        if (upward) {
            is("COME TO from H", x.many(5), 128);
            is("start", x.start(0), 7);
        }
        is("GOOD", x.many(4), 255);
        is("COME TO", x.many(5), 255);
        is("USED", x.many(6), 255);
    }

    /** What goes from SYMBOL to SYMBOL goes through all eight, in whichever order they are told. */
    private static void chains() {
        for (boolean upward : new boolean[] {false, true}) {
            chain("X", upward);
            is("FIRST", x.ends(0, 0), 1);
            is("LAST", x.ends(0, 1), 1);
            is("COST", x.yields(0, 0), 9);
            is("RULES", x.yields(0, 1), 8);
            is("COST of the CONTEXT", x.context(7, 0), 7);
            is("RULES of the CONTEXT", x.context(7, 1), 7);
            is("PAIRS", x.many(8), 7);
            is("all in one SENTENCE", x.pair(6, 5), 7);
            is("COVER", x.many(9), 1);
            is("BOUND", x.bound(), 1);
            is("TREES", x.trees(0, 1), 1);
            is("the last RULE of the tree", x.treeRule(0, 1, 0, 7), upward ? 0 : 7);
            Feeder.put(x, "a");
            is("OWN TREE", x.parse(1), 8);
            is("its last RULE", x.parsed(1, 7), upward ? 0 : 7);
            chain("Xi", upward);
            is("FIRST", x.ends(0, 0), 1);
            is("LAST", x.ends(0, 1), 1 << 8);
            is("COST", x.yields(0, 0), 16);
            is("LEFT", x.context(7, 2), 0);
            is("RIGHT", x.context(7, 3), 7);
            chain("iX", upward);
            is("FIRST", x.ends(0, 0), 1 << 8);
            is("LAST", x.ends(0, 1), 1);
            is("LEFT", x.context(7, 2), 7);
            is("RIGHT", x.context(7, 3), 0);
            is("TREES", x.trees(0, 8), 1);
            chain("iXX", upward);
            no("no YIELD within 200", x.yields(0, 0), 6);
            is("LAST", x.ends(0, 1), 1);
            is("no TREES of 24 LETTERS", x.trees(0, 24), 0);
            is("but of three levels", x.trees(5, 7), 1);
        }
    }

    /** Of START nothing is about it, though there was something when another SYMBOL was START. */
    private static void contextsAnew() {
        load("A=aBb;B=cA|d;", 3);
        is("LEFT", x.around(1, false, 0), 0);
        is("RIGHT", x.around(1, true, 0), 1);
        is("start", x.start(1), 0);
        is("no LETTERS LEFT", x.context(1, 2), 0);
        is("no LETTERS RIGHT", x.context(1, 3), 0);
        no("none LEFT", x.around(1, false, 0), 6);
        no("none RIGHT", x.around(1, true, 0), 6);
        is("LEFT of A", x.around(0, false, 0), 2);
        is("one LETTER", x.context(0, 2), 1);
        is("none RIGHT of A", x.context(0, 3), 0);
        is("undone", x.undo(), 1);
        is("LEFT", x.context(1, 2), 1);
        is("RIGHT", x.context(1, 3), 1);
        load("A=aB|Bb:2;B=c;", 3);
        is("LEFT", x.context(1, 2), 1);
        is("RIGHT", x.context(1, 3), 0);
        is("off", x.turn(0, false), 2);
        is("LEFT", x.context(1, 2), 0);
        is("RIGHT", x.context(1, 3), 1);
        // a CONTEXT of a SYMBOL that has no YIELD
        load("A=BC|c;B=bB;C=c|D;D=d;", 6);
        is("COST", x.context(1, 0), 3);
        is("RULES", x.context(1, 1), 2);
        no("no YIELD", x.yields(1, 0), 6);
    }

    /** The one that has the most PAIRS that none has yet, of several that of the least PAIR. */
    private static void coverOrder() {
        load("A=BC|aD;B=b|Db;C=c|D;D=d|dd;", 8);
        // dbc has PAIRS 1, 2, 6, then bd 0, 3, 8; then 4, 5, 7, 9 are left
        int[] want = {1, 3, 4, 5, 7, 9};
        int[] had = {3, 3, 1, 1, 3, 3};
        is("COVER", x.many(9), want.length);
        for (int k = 0; k < want.length; k++) {
            is("PAIR of SENTENCE " + k, x.cover(k, 0), want[k]);
            is("PAIRS of SENTENCE " + k, x.cover(k, 2), had[k]);
            is("its own", x.cover(k, 3), 1);
        }
        int[] by = {1, 0, 0, 1, 2, 3, 0, 4, 1, 5};
        for (int p = 0; p < by.length; p++) {
            is("PAIR " + p + " by", x.by(p), by[p]);
        }
        is("BOUND", x.bound(), 4);
        load("A=BCD|aD;B=b|bb|Eb;C=c|cc|Ec;D=d|E;E=e|Fe;F=f|ff|fE;", 15);
        int[] longer = {11, 18, 5, 7, 1, 2, 4, 8, 13, 17, 20};
        is("PAIRS", x.many(8), 21);
        is("COVER", x.many(9), longer.length);
        for (int k = 0; k < longer.length; k++) {
            is("PAIR of SENTENCE " + k, x.cover(k, 0), longer[k]);
        }
        is("BOUND", x.bound(), 5);
        is("one off", x.turn(14, false), 14);
        is("PAIRS", x.many(8), 18);
        // febcd, then 9 15 17 of affe, 0 5 12 of becd, 7 14 of bce, and the rest one by one
        int[] without = {11, 5, 17, 7, 1, 2, 4, 8, 13};
        is("COVER", x.many(9), without.length);
        for (int k = 0; k < without.length; k++) {
            is("PAIR of SENTENCE " + k, x.cover(k, 0), without[k]);
        }
        is("ON again", x.turn(14, true), 15);
        is("COVER", x.many(9), longer.length);
        is("PAIR of the last SENTENCE", x.cover(10, 0), 20);
    }

    /** A SENTENCE that was taken is left out, if others have all its PAIRS. */
    private static void leftOut() {
        // ff has PAIRS 0, 2 and is taken first; gf has 1, 2 and fg has 0, 3, so that it is not needed
        load("A=BB;B=f|g;", 3);
        is("COVER", x.many(9), 2);
        is("gf", x.cover(0, 0), 1);
        is("fg", x.cover(1, 0), 3);
        is("PAIR 0", x.by(0), 1);
        is("PAIR 1", x.by(1), 0);
        is("PAIR 2", x.by(2), 0);
        is("PAIR 3", x.by(3), 1);
        is("its own", x.cover(0, 3), 2);
        no("no third one", x.cover(2, 0), 6);
        is("BOUND", x.bound(), 2);
    }

    /** WRONG at the begin alone, at the end alone, by two side by side alone; by the place, then by the LETTER. */
    private static void wrongs() {
        load("A=aBc|b;B=d|e;", 4);
        is("COVER", x.many(9), 2);
        // adc: a and b begin, b and c end, side by side ad, ae, dc, ec
        String[] want = {"0b", "0c", "0d", "0e", "1a", "1b", "1c", "2a", "2b", "2d", "2e"};
        is("how many", x.cover(0, 4), want.length);
        for (int i = 0; i < want.length; i++) {
            is("the place", x.wrong(0, i, 0), want[i].charAt(0) - '0');
            is("the LETTER", x.wrong(0, i, 1), want[i].charAt(1) - 'a');
        }
        no("no more", x.wrong(0, want.length, 0), 6);
        // of a SENTENCE of one LETTER, b, both count: a can begin but not end, d end but not begin, c can do both
        load("A=B|ab|bd|cc;B=b|bb;", 6);
        is("of one LETTER", x.cover(0, 1), 1);
        is("two are wrong", x.cover(0, 4), 2);
        is("a", x.wrong(0, 0, 1), 0);
        is("d", x.wrong(0, 1, 1), 3);
        // a LETTER in no USED RULE does not come
        load("A=B;B=a|b;C=c;", 4);
        is("none is wrong", x.cover(0, 4), 0);
        no("not one", x.wrong(0, 0, 0), 6);
    }

    /** TREES of 1 to 24 LETTERS, told up to 1,000,000,000,000. */
    private static void mostTrees() {
        // of B there are ten to the n less one, of G one of twelve LETTERS
        load("A=B|G;B=BC|E;C=F|a;D=a|b|c;E=dE|F;F=D|D|D;G=HHH;H=kkkk;", 16);
        long power = 1;
        for (int n = 1; n <= 24; n++) {
            power = Math.min(power * 10, MOST_TREES * 10);
            is("TREES of B of " + n, x.trees(1, n), Math.min(power - 1, MOST_TREES));
        }
        is("one less", x.trees(1, 12), MOST_TREES - 1);
        is("just so many", x.trees(0, 12), MOST_TREES);
        is("more", x.trees(1, 13), MOST_TREES);
        Feeder.put(x, times("k", 12));
        is("NUMBER of the last one", x.number(12), MOST_TREES - 1);
        // a third of one less by three, where nothing but the rest of a division tells that it is not too many
        load("A=BD;B=BC|E;C=F|a;D=a|b|c;E=dE|D;F=D|D|D;", 13);
        is("a third", x.trees(1, 12), 333333333333L);
        is("one less", x.trees(0, 13), MOST_TREES - 1);
        is("more", x.trees(0, 14), MOST_TREES);
        // of B there are just as many of twelve LETTERS, of G eight
        load("A=B|G;B=CCCC;C=DDD;D=E|a;E=F|F|F;F=a|b|c;G=HHH;H=llll|kkkk;", 15);
        is("just so many", x.trees(1, 12), MOST_TREES);
        is("eight more", x.trees(0, 12), MOST_TREES);
        is("of three LETTERS", x.trees(2, 3), 1000);
        Feeder.put(x, times("l", 12));
        is("NUMBER", x.number(12), MOST_TREES);
        Feeder.put(x, times("k", 12));
        is("NUMBER of the last one", x.number(12), MOST_TREES);
        Feeder.put(x, times("c", 12));
        is("NUMBER far below", x.number(12), 222222222222L);
        is("a LETTER of a tree with a large number", x.tree(0, 12, Integer.MAX_VALUE, 0), 0);
        is("its last LETTER", x.tree(0, 12, Integer.MAX_VALUE, 11), 1);
        is("the one ahead", x.tree(0, 12, Integer.MAX_VALUE - 1, 11), 0);
    }

    /** In how many ways, 1,000,000 at most. */
    private static void mostWays() {
        load("A=B|G;B=BC|E;C=F|a;D=a|a|a;E=aE|F;F=D|D|D;G=HH;H=aaa;", 16);
        Feeder.put(x, times("a", 16));
        is("just so many", x.ways(6), 1000000);
        is("far below", x.ways(5), 99999);
        is("more", x.ways(7), 1000000);
        is("far more", x.ways(16), 1000000);
        x.start(1);
        is("one less", x.ways(6), 999999);
        load("A=B|G;B=CC;C=DDD;D=E|a;E=F|F|F;F=a|a|a;G=HH;H=aaa|aaa;", 15);
        Feeder.put(x, times("a", 6));
        is("four more", x.ways(6), 1000000);
        x.start(1);
        is("just so many", x.ways(6), 1000000);
        x.start(2);
        is("of three", x.ways(3), 1000);
    }

    /** SHRUNK: not all goes, and as long as there is a part that can. */
    private static void shrunk() {
        load("A=Aa|a|AbA;", 3);
        Feeder.put(x, "a");
        is("one LETTER stays", x.shrink(1, 1), 1);
        is("it", x.shrunk(1, 1, 0), 0);
        Feeder.put(x, times("a", 16));
        is("by A=a", x.shrink(16, 1), 1);
        is("by A=Aa", x.shrink(16, 0), 2);
        Feeder.put(x, times("ab", 7) + "aa");
        is("by A=AbA", x.shrink(16, 2), 3);
        is("a", x.shrunk(16, 2, 0), 0);
        is("b", x.shrunk(16, 2, 1), 1);
        is("a", x.shrunk(16, 2, 2), 0);
        no("no more", x.shrunk(16, 2, 3), 6);
        is("the tape stays", x.ways(16), x.ways(16));
        is("as it was", x.parse(16), 16);
    }

    /** A part goes at the begin, at the end or within. */
    private static void shrunkAtEachEnd() {
        load("A=aA|b;", 2);
        Feeder.put(x, "aaab");
        is("the begin goes", x.shrink(4, 1), 1);
        is("b stays", x.shrunk(4, 1, 0), 1);
        load("A=Aa|b;", 2);
        Feeder.put(x, "baaa");
        is("the end goes", x.shrink(4, 1), 1);
        is("b stays", x.shrunk(4, 1, 0), 1);
        load("A=cBd;B=aB|a|bB;", 4);
        Feeder.put(x, "cabaad");
        is("within", x.shrink(6, 2), 3);
        is("c", x.shrunk(6, 2, 0), 2);
        is("a", x.shrunk(6, 2, 1), 0);
        is("d", x.shrunk(6, 2, 2), 3);
        // the first of the longest parts without which it is a SENTENCE: ba, at 2
        is("by B=aB", x.shrink(6, 1), 4);
        is("by B=bB", x.shrink(6, 3), 4);
        is("b stays", x.shrunk(6, 3, 1), 1);
    }

    /** What was told of a grammar ahead of an ACT has no part in what is told behind it. */
    private static void warm(SentenceMaker y) {
        for (int what = 4; what <= 9; what++) {
            y.many(what);
        }
        for (int s = 0; s < 8; s++) {
            y.ends(s, 1);
            y.yields(s, 2);
            y.context(s, 3);
            y.trees(s, 24);
            y.tree(s, 3, 0, 0);
            y.foretells(s, 0);
        }
        for (int p = 0; p < 4; p++) {
            y.shown(p, 0);
            y.pair(p, 5);
            y.cover(p, 4);
            y.wrong(p, 0, 0);
        }
        y.bound();
        y.conflicts();
        for (int n = 1; n <= 4; n++) {
            y.number(n);
            y.ways(n);
            y.parse(n);
            y.shrink(n, 0);
        }
    }

    private static void act(SentenceMaker y, int which, Random random) {
        switch (which) {
            case 0:
                y.turn(random.nextInt(16), false);
                break;
            case 1:
                y.weigh(random.nextInt(16), random.nextInt(10));
                break;
            case 2:
                y.start(random.nextInt(8));
                break;
            case 3:
                y.undo();
                break;
            default:
                Feeder.load(y, Grammars.make(random));
                Feeder.put(y, "aaab");
                break;
        }
    }

    private static void askedBefore(int seed) {
        for (int which = 0; which < 5; which++) {
            int kind = which;
            String[] told = new String[2];
            for (int asked = 0; asked < 2; asked++) {
                boolean ask = asked == 1;
                told[asked] = Portrait.of(y -> {
                    Random random = new Random(seed);
                    for (int i = 0; i < 4 && y.many(0) == 0; i++) {
                        Feeder.load(y, Grammars.make(random));
                    }
                    Feeder.put(y, "abab");
                    y.turn(random.nextInt(16), false);
                    if (ask) {
                        warm(y);
                    }
                    act(y, kind, random);
                });
            }
            String difference = Portrait.difference(told[0], told[1]);
            CHECK.holds("seed " + seed + ", act " + which + ": asked before: " + difference, difference.isEmpty());
        }
    }

    /** An object is used for 512 calls: the last one is answered as the first. */
    private static void lastCall() {
        x = new SentenceMaker();
        Feeder.feed(x, "A=aA|b;");
        x.load(7);
        for (int call = 2; call < 510; call++) {
            CHECK.due("call " + call, x.weigh(0, call % 2 == 0 ? 5 : 1), call % 2 == 0 ? 1 : 5);
        }
        CHECK.due("call 511", x.undo(), 7);
        CHECK.due("call 512", x.rule(0, 2), 5);
    }

    public static void main(String[] args) {
        symbolsAndLetters();
        rules();
        signs();
        weights();
        textLength();
        blanks();
        lines();
        bytes();
        firstFault();
        notTold();
        rings();
        loadedAnew();
        toldWhenOff();
        acts();
        for (int seed = 0; seed < 40; seed++) {
            actsAndUndos(seed);
        }
        eachAct();
        costOfYields();
        costOfOne();
        costOfContexts();
        costOfPairs();
        mostPairs();
        lastPairs();
        pairOrder();
        sameCost();
        chains();
        contextsAnew();
        coverOrder();
        leftOut();
        wrongs();
        mostTrees();
        mostWays();
        shrunk();
        shrunkAtEachEnd();
        for (int seed = 0; seed < 200; seed++) {
            askedBefore(seed);
        }
        lastCall();
        CHECK.close("LimitsTest");
    }
}
