/**
 * What each promise says in brackets: of each call the last number that is allowed and the first that is not, which
 * STATUS comes first where several hold, and that a refused call changes nothing else.
 */
public final class RefusalsTest {
    private static final int NONE = SentenceMaker.NONE;

    /** Rules: 0 A=aB, 1 A=b (weight 3), 2 B=c, 3 B=Ad. */
    private static final String SMALL = "A = a B | b : 3 ; B = c | A d ;";
    /** Sixteen rules of eight symbols; the first row has four signs, the last rule is 15, H=p. */
    private static final String FULL = "A=ABCD|B;B=CD|b;C=DE|c;D=EF|d;E=FG|e;F=GH|f;G=HA|g;H=o|p:9;";
    /** B has no tree, and C stands in no rule that has one, so it has no CONTEXT; D is not TOLD. */
    private static final String DRY = "A=a|BC;B=bB;C=c;";

    private static final Check CHECK = new Check();
    private static final Asker ASK = new Asker(CHECK);

    private RefusalsTest() {
    }

    private static void empty(SentenceMaker x) {
    }

    /** SMALL by seven ACTS, then a load with FAULT 1 at 2, so that there is something that could change. */
    private static void acted(SentenceMaker x) {
        Feeder.load(x, SMALL);
        x.weigh(2, 2);
        x.weigh(2, 1);
        x.turn(1, false);
        x.turn(1, true);
        x.start(1);
        x.start(0);
        Feeder.load(x, "A=q;");
    }

    private static Portrait.Setup smallWith(String tape) {
        return x -> {
            acted(x);
            Feeder.put(x, tape);
        };
    }

    private static void small(SentenceMaker x) {
        smallWith("aacd").on(x);
    }

    private static Portrait.Setup grammar(String text) {
        return x -> Feeder.load(x, text);
    }

    private static Portrait.Setup grammar(String text, String tape) {
        return x -> {
            Feeder.load(x, text);
            Feeder.put(x, tape);
        };
    }

    private static void newObject() {
        CHECK.due("promise 1: STATUS", new SentenceMaker().status(), 0);
        ASK.begin(1, RefusalsTest::empty);
        ASK.is(0, "many", 0);
        ASK.is(0, "many", 1);
        ASK.is(0, "many", 2);
        ASK.is(0, "many", 3);
        ASK.is(0, "many", 10);
        ASK.is(0, "drop", 0);
        ASK.no(1, "drop", 1);
        ASK.no(6, "undo");
        ASK.no(2, "rule", 0, 0);
    }

    private static void status() {
        ASK.begin(2, RefusalsTest::small);
        ASK.tells(1, "status");
        Portrait.Setup[] refused = {x -> x.many(11), x -> x.rule(4, 0), x -> x.turn(0, true), x -> x.ways(5),
            x -> x.sign(0, 2), x -> x.parse(2)};
        int[] want = {1, 2, 3, 1, 6, 5};
        for (int i = 0; i < refused.length; i++) {
            SentenceMaker x = new SentenceMaker();
            small(x);
            refused[i].on(x);
            for (int k = 0; k < 3; k++) {
                CHECK.due("promise 2: the STATUS of refused call " + i, x.status(), want[i]);
                x.feed(0, 0, 0, 0, 0);
                CHECK.due("promise 2: it stays behind feed()", x.status(), want[i]);
                x.fault(k);
                CHECK.due("promise 2: it stays behind fault()", x.status(), want[i]);
            }
            x.conflicts();
            CHECK.due("promise 2: of the next call it is 0", x.status(), 0);
        }
        SentenceMaker x = new SentenceMaker();
        Feeder.feed(x, "ab?");
        x.ways(3);
        CHECK.due("promise 2: STATUS 4", x.status(), 4);
        x.load(3);
        CHECK.due("promise 2: STATUS 7", x.status(), 7);
        x.trees(0, 0);
        CHECK.due("promise 2: of a call that gives a long", x.status(), 1);
        x.number(0);
        CHECK.due("promise 2: and of the other one", x.status(), 1);
    }

    /** A tape with a grammar's text of some bytes, all of which are seen when it is loaded. */
    private static Portrait.Setup taped(int bytes) {
        StringBuilder text = new StringBuilder("A=aB|d");
        while (text.length() < bytes - 5) {
            text.append(' ');
        }
        text.append(";B=c;");
        return x -> {
            acted(x);
            Feeder.feed(x, text.toString());
            x.drop(x.drop(0) - bytes);
        };
    }

    private static void feed() {
        for (int bytes = 381; bytes <= 400; bytes++) {
            ASK.begin("promise 3, " + bytes + " bytes", taped(bytes));
            ASK.tells(NONE, "feed", 0x61616161, 0x61616161, 0x61616161, 0x61616161, 0x61616161);
        }
        for (int bytes = 0; bytes <= 380; bytes++) {
            SentenceMaker x = new SentenceMaker();
            for (int fed = 0; fed < bytes; fed += 20) {
                x.feed(0, 0, 0, 0, 0);
            }
            x.drop((20 - bytes % 20) % 20);
            CHECK.due("promise 3: behind " + bytes, x.feed(0, 0, 0, 0, 0), bytes + 20);
            CHECK.due("promise 3: so many there are", x.drop(0), bytes + 20);
        }
    }

    /** Of twenty bytes each is seen in its place, as it is: a LETTER and 128 is none. */
    private static void fedBytes() {
        String text = "A=abcd|efgh|ijkl|mn;";
        SentenceMaker x = new SentenceMaker();
        x.feed(0x413d6162, 0x63647c65, 0x6667687c, 0x696a6b6c, 0x7c6d6e3b);
        CHECK.due("promise 3: all twenty", x.load(20), 4);
        for (int i = 0; i < 14; i++) {
            CHECK.due("promise 3: LETTER " + i, x.sign(i / 4, i % 4), 16 + i);
        }
        for (int at = 0; at < 20; at++) {
            char[] bytes = text.toCharArray();
            bytes[at] += 128;
            Feeder.feed(x, new String(bytes));
            CHECK.due("promise 3: load of byte " + (int) bytes[at], x.load(20), NONE);
            CHECK.due("promise 3: its FAULT", x.fault(0), 1);
            CHECK.due("promise 3: its place", x.fault(1), at);
        }
        x.feed(-1, -1, -1, -1, -1);
        CHECK.due("promise 3: bytes 255", x.load(20), NONE);
        CHECK.due("promise 3: FAULT of 255", x.fault(0), 1);
        CHECK.due("promise 3: place of 255", x.fault(1), 0);
        Feeder.put(x, "A=a|");
        x.feed(0x62633b42, 0x3d643b20, 0x20202020, 0x20202020, 0x20202020);
        CHECK.due("promise 3: they come behind those on the tape", x.load(24), 3);
        CHECK.due("promise 3: the second RULE", x.rule(1, 1), 2);
    }

    private static void load() {
        for (int bytes : new int[] {12, 20, 21, 399, 400}) {
            ASK.begin("promise 4, " + bytes + " bytes", taped(bytes));
            for (int n : Asker.outside(0, bytes)) {
                ASK.no(1, "load", n);
            }
            SentenceMaker x = new SentenceMaker();
            taped(bytes).on(x);
            CHECK.due("promise 4: all of " + bytes, x.load(bytes), 3);
            CHECK.due("promise 4: an ACT", x.many(10), 8);
            CHECK.due("promise 4: the tape is empty then", x.drop(0), 0);
            taped(bytes).on(x);
            CHECK.due("promise 4: one byte less is a fault", x.load(bytes - 1), NONE);
            CHECK.due("promise 4: with STATUS 7", x.status(), 7);
            CHECK.due("promise 4: at its end", x.fault(1), bytes - 1);
            CHECK.due("promise 4: the tape is empty then, too", x.drop(0), 0);
        }
        ASK.begin("promise 4, no bytes", RefusalsTest::acted);
        for (int n : Asker.outside(0, 0)) {
            ASK.no(1, "load", n);
        }
    }

    /** With STATUS 7 only the tape and what fault() tells may be others than ahead of it. */
    private static void faultyLoad() {
        String before = Portrait.of(RefusalsTest::acted);
        String[] texts = {"A=q;", "A=a;;", "A=a;A=b;", "A=aaaaa;", "A=a|a|a|a|a|a|a|a|a|a|a|a|a|a|a|a|a;", "H=C;",
            "H=h;G=G;", ""};
        int[] kinds = {1, 2, 3, 4, 5, 6, 7, 2};
        int[] places = {2, 4, 4, 6, 34, 4, 8, 0};
        for (int i = 0; i < texts.length; i++) {
            String text = texts[i];
            String after = Portrait.of(x -> {
                acted(x);
                Feeder.feed(x, text);
                CHECK.due("promise 4: load of " + text, x.load(text.length()), NONE);
                CHECK.due("promise 4: STATUS of " + text, x.status(), 7);
            });
            String want = before.replaceAll("fault 1 2\n", "fault " + kinds[i] + " " + places[i] + "\n");
            String difference = Portrait.difference(want, after);
            CHECK.holds("promise 4: " + text + " changes nothing else: " + difference, difference.isEmpty());
        }
    }

    private static void fault() {
        ASK.begin("promise 5, ahead of any", RefusalsTest::empty);
        for (int what = -2; what <= 3; what++) {
            ASK.tells(NONE, "fault", what);
        }
        ASK.begin("promise 5, with one", RefusalsTest::small);
        ASK.tells(1, "fault", 0);
        ASK.tells(2, "fault", 1);
        for (int what : Asker.outside(0, 1)) {
            ASK.tells(NONE, "fault", what);
        }
        ASK.begin("promise 5, without one", grammar(SMALL));
        ASK.tells(0, "fault", 0);
        ASK.tells(NONE, "fault", 1);
        for (int what : Asker.outside(0, 1)) {
            ASK.tells(NONE, "fault", what);
        }
        ASK.begin("promise 5, ahead of any but for one refused with 1", x -> x.load(1));
        ASK.tells(NONE, "fault", 0);
        ASK.tells(NONE, "fault", 1);
        ASK.begin("promise 5, behind an undo", x -> {
            Feeder.load(x, "A=A;");
            Feeder.load(x, SMALL);
            x.undo();
        });
        ASK.tells(0, "fault", 0);
        ASK.tells(NONE, "fault", 1);
    }

    private static void turn() {
        ASK.begin(6, RefusalsTest::small);
        for (int rule : Asker.outside(0, 3)) {
            ASK.no(2, "turn", rule, true);
            ASK.no(2, "turn", rule, false);
        }
        for (int rule = 0; rule < 4; rule++) {
            ASK.no(3, "turn", rule, true);
            ASK.acts(3, "turn", rule, false);
        }
        ASK.begin(6, x -> {
            Feeder.load(x, SMALL);
            for (int rule = 0; rule < 4; rule++) {
                CHECK.due("promise 6: so many are ON still", x.turn(rule, false), 3 - rule);
            }
        });
        for (int rule = 0; rule < 4; rule++) {
            ASK.no(3, "turn", rule, false);
            ASK.acts(1, "turn", rule, true);
        }
        ASK.begin(6, grammar(FULL));
        ASK.acts(15, "turn", 15, false);
        ASK.no(2, "turn", 16, false);
        ASK.no(2, "turn", 16, true);
        ASK.begin(6, RefusalsTest::empty);
        ASK.no(2, "turn", 0, true);
        ASK.no(2, "turn", 0, false);
    }

    private static void weigh() {
        ASK.begin(7, RefusalsTest::small);
        for (int weight : Asker.outside(0, 9)) {
            ASK.no(1, "weigh", 0, weight);
            ASK.no(1, "weigh", 4, weight);
        }
        for (int rule : Asker.outside(0, 3)) {
            ASK.no(2, "weigh", rule, 0);
            ASK.no(2, "weigh", rule, 9);
        }
        ASK.no(3, "weigh", 0, 1);
        ASK.no(3, "weigh", 1, 3);
        ASK.acts(1, "weigh", 0, 0);
        ASK.acts(1, "weigh", 0, 9);
        ASK.acts(3, "weigh", 1, 2);
        ASK.acts(1, "weigh", 3, 2);
        ASK.begin(7, grammar(FULL));
        ASK.acts(9, "weigh", 15, 0);
        ASK.no(3, "weigh", 15, 9);
        ASK.no(2, "weigh", 16, 9);
        ASK.begin(7, x -> {
            Feeder.load(x, "A=a:0|b:9;");
            x.turn(1, false);
        });
        ASK.no(3, "weigh", 0, 0);
        ASK.no(3, "weigh", 1, 9);
        ASK.acts(9, "weigh", 1, 0);
        ASK.begin(7, RefusalsTest::empty);
        ASK.no(1, "weigh", 0, 10);
        ASK.no(2, "weigh", 0, 1);
    }

    private static void start() {
        ASK.begin(8, RefusalsTest::small);
        for (int symbol : Asker.outside(0, 7)) {
            ASK.no(1, "start", symbol);
        }
        for (int symbol = 2; symbol < 8; symbol++) {
            ASK.no(2, "start", symbol);
        }
        ASK.no(3, "start", 0);
        ASK.acts(0, "start", 1);
        ASK.begin(8, x -> {
            Feeder.load(x, FULL);
            x.start(7);
        });
        ASK.no(3, "start", 7);
        ASK.acts(7, "start", 0);
        ASK.acts(7, "start", 6);
        ASK.begin("promise 8, A is START but not TOLD", RefusalsTest::empty);
        ASK.no(2, "start", 0);
        ASK.no(2, "start", 7);
        ASK.begin("promise 8, TOLD by rules that are off", x -> {
            Feeder.load(x, SMALL);
            x.turn(2, false);
            x.turn(3, false);
        });
        ASK.acts(0, "start", 1);
    }

    private static void undo() {
        ASK.begin(9, RefusalsTest::empty);
        ASK.no(6, "undo");
        ASK.begin(9, x -> {
            acted(x);
            for (int left = 6; left >= 0; left--) {
                CHECK.due("promise 9: so many can be still", x.undo(), left);
            }
        });
        ASK.no(6, "undo");
        ASK.begin("promise 9, a refused act is none", x -> {
            x.load(0);
            x.turn(0, true);
            x.weigh(0, 1);
            x.start(0);
        });
        ASK.no(6, "undo");
    }

    private static void many() {
        ASK.begin(10, RefusalsTest::small);
        for (int what : Asker.outside(0, 10)) {
            ASK.no(1, "many", what);
        }
        long[] want = {4, 15, 0, 3, 3, 3, 15, 15, 4, 2, 7};
        for (int what = 0; what <= 10; what++) {
            ASK.is(want[what], "many", what);
        }
        ASK.begin(10, RefusalsTest::empty);
        for (int what : Asker.outside(0, 10)) {
            ASK.no(1, "many", what);
        }
        for (int what = 0; what <= 10; what++) {
            ASK.is(what == 5 ? 1 : 0, "many", what);
        }
        ASK.begin(10, grammar(FULL));
        ASK.is(16, "many", 0);
        ASK.is(65535, "many", 1);
        ASK.is(255, "many", 3);
        ASK.is(255, "many", 4);
        ASK.is(255, "many", 5);
        ASK.is(65535, "many", 6);
        ASK.is(1 << 14 | 1 << 15 | 126, "many", 7);
    }

    private static void rule() {
        ASK.begin(11, RefusalsTest::small);
        for (int what : Asker.outside(0, 3)) {
            ASK.no(1, "rule", 0, what);
            ASK.no(1, "rule", 4, what);
            ASK.no(1, "rule", -1, what);
        }
        for (int rule : Asker.outside(0, 3)) {
            ASK.no(2, "rule", rule, 0);
            ASK.no(2, "rule", rule, 3);
        }
        ASK.is(0, "rule", 0, 0);
        ASK.is(1, "rule", 0, 3);
        ASK.is(1, "rule", 3, 0);
        ASK.is(1, "rule", 3, 3);
        ASK.begin(11, grammar(FULL));
        ASK.is(7, "rule", 15, 0);
        ASK.is(1, "rule", 15, 1);
        ASK.is(9, "rule", 15, 2);
        ASK.is(4, "rule", 0, 1);
        ASK.no(2, "rule", 16, 0);
        ASK.begin(11, RefusalsTest::empty);
        ASK.no(1, "rule", 0, 4);
        ASK.no(2, "rule", 0, 0);
    }

    private static void sign() {
        ASK.begin(12, grammar("A=a|bB|cBd|Befp;B=a;"));
        for (int i : Asker.below(0)) {
            ASK.no(1, "sign", 0, i);
            ASK.no(1, "sign", 5, i);
            ASK.no(1, "sign", -1, i);
        }
        for (int rule : Asker.outside(0, 4)) {
            ASK.no(2, "sign", rule, 0);
            ASK.no(2, "sign", rule, 4);
        }
        int[] last = {16, 1, 19, 31};
        for (int rule = 0; rule < 4; rule++) {
            ASK.is(last[rule], "sign", rule, rule);
            for (int i : Asker.above(rule)) {
                ASK.no(6, "sign", rule, i);
            }
        }
        ASK.is(1, "sign", 3, 0);
        ASK.is(16, "sign", 4, 0);
        ASK.no(6, "sign", 4, 1);
        ASK.begin(12, grammar(FULL));
        ASK.is(31, "sign", 15, 0);
        ASK.is(3, "sign", 0, 3);
        ASK.is(7, "sign", 10, 1);
        ASK.no(2, "sign", 16, 0);
    }

    private static void ends() {
        ASK.begin(13, RefusalsTest::small);
        for (int what : Asker.outside(0, 1)) {
            ASK.no(1, "ends", 0, what);
            ASK.no(1, "ends", 2, what);
            ASK.no(1, "ends", 8, what);
        }
        for (int symbol : Asker.outside(0, 7)) {
            ASK.no(1, "ends", symbol, 0);
            ASK.no(1, "ends", symbol, 1);
        }
        for (int symbol = 2; symbol < 8; symbol++) {
            ASK.no(2, "ends", symbol, 0);
            ASK.no(2, "ends", symbol, 1);
        }
        ASK.is(3, "ends", 0, 0);
        ASK.is(12, "ends", 1, 1);
        ASK.begin(13, grammar(FULL));
        ASK.is(1 << 14 | 1 << 15, "ends", 7, 0);
        ASK.is(1 << 14 | 1 << 15, "ends", 7, 1);
        ASK.begin("promise 13, not GOOD", grammar(DRY));
        ASK.is(0, "ends", 1, 0);
        ASK.is(0, "ends", 1, 1);
        ASK.is(1, "ends", 0, 0);
        ASK.is(4, "ends", 2, 1);
        ASK.no(2, "ends", 3, 0);
    }

    private static void beside() {
        ASK.begin(14, RefusalsTest::small);
        for (int letter : Asker.outside(-1, 15)) {
            ASK.no(1, "beside", letter);
        }
        ASK.is(3, "beside", -1);
        ASK.is(7, "beside", 0);
        ASK.is(0, "beside", 15);
        ASK.begin(14, grammar("A=ppa;"));
        ASK.is(1 << 15, "beside", -1);
        ASK.is(1 << 15 | 1, "beside", 15);
        ASK.is(0, "beside", 0);
        ASK.begin("promise 14, no grammar", RefusalsTest::empty);
        ASK.is(0, "beside", -1);
        ASK.is(0, "beside", 0);
        ASK.is(0, "beside", 15);
        ASK.no(1, "beside", 16);
        ASK.no(1, "beside", -2);
    }

    private static void yields() {
        ASK.begin(15, RefusalsTest::small);
        for (int what : Asker.outside(0, 3)) {
            ASK.no(1, "yields", 0, what);
            ASK.no(1, "yields", 2, what);
        }
        for (int symbol : Asker.outside(0, 7)) {
            ASK.no(1, "yields", symbol, 0);
            ASK.no(1, "yields", symbol, 3);
        }
        for (int symbol = 2; symbol < 8; symbol++) {
            ASK.no(2, "yields", symbol, 0);
        }
        ASK.is(4, "yields", 0, 0);
        ASK.is(2, "yields", 1, 3);
        ASK.begin("promise 15, none", grammar(DRY));
        for (int what = 0; what <= 3; what++) {
            ASK.no(6, "yields", 1, what);
        }
        ASK.no(1, "yields", 1, 4);
        ASK.no(1, "yields", 1, -1);
        ASK.no(2, "yields", 3, 0);
        ASK.begin(15, grammar(FULL));
        ASK.is(2, "yields", 7, 0);
        ASK.is(14, "yields", 7, 3);
    }

    private static void yielded() {
        ASK.begin(16, grammar("A=B|CC;B=abp:9;C=d;H=h;"));
        for (int i : Asker.below(0)) {
            ASK.no(1, "yielded", 1, i);
            ASK.no(1, "yielded", 3, i);
        }
        for (int symbol : Asker.outside(0, 7)) {
            ASK.no(1, "yielded", symbol, 0);
            ASK.no(1, "yielded", symbol, 9);
        }
        ASK.no(2, "yielded", 3, 0);
        ASK.no(2, "yielded", 3, 9);
        ASK.is(0, "yielded", 1, 0);
        ASK.is(15, "yielded", 1, 2);
        for (int i : Asker.above(2)) {
            ASK.no(6, "yielded", 1, i);
        }
        ASK.is(3, "yielded", 0, 1);
        ASK.no(6, "yielded", 0, 2);
        ASK.is(7, "yielded", 7, 0);
        ASK.no(6, "yielded", 7, 1);
        ASK.begin("promise 16, none", grammar(DRY));
        ASK.no(1, "yielded", 1, -1);
        ASK.no(6, "yielded", 1, 0);
        ASK.no(6, "yielded", 1, 9);
    }

    private static void context() {
        ASK.begin(17, RefusalsTest::small);
        for (int what : Asker.outside(0, 5)) {
            ASK.no(1, "context", 0, what);
            ASK.no(1, "context", 2, what);
        }
        for (int symbol : Asker.outside(0, 7)) {
            ASK.no(1, "context", symbol, 0);
            ASK.no(1, "context", symbol, 5);
        }
        for (int symbol = 2; symbol < 8; symbol++) {
            ASK.no(2, "context", symbol, 0);
        }
        long[] ofStart = {0, 0, 0, 0, NONE, NONE};
        long[] ofB = {2, 1, 1, 0, 0, 1};
        for (int what = 0; what <= 5; what++) {
            ASK.is(ofStart[what], "context", 0, what);
            ASK.is(ofB[what], "context", 1, what);
        }
        ASK.begin("promise 17, none", grammar(DRY));
        for (int what = 0; what <= 5; what++) {
            ASK.no(6, "context", 2, what);
        }
        ASK.no(1, "context", 2, 6);
        ASK.no(1, "context", 2, -1);
        ASK.no(2, "context", 3, 0);
        ASK.is(3, "context", 1, 0);
        ASK.begin(17, grammar("A=bcdH;H=h;"));
        ASK.is(4, "context", 7, 0);
        ASK.is(3, "context", 7, 5);
    }

    private static void around() {
        ASK.begin(18, grammar("A=abBp|g;B=c;C=d;"));
        for (int i : Asker.below(0)) {
            ASK.no(1, "around", 1, false, i);
            ASK.no(1, "around", 1, true, i);
            ASK.no(1, "around", 3, true, i);
        }
        for (int symbol : Asker.outside(0, 7)) {
            ASK.no(1, "around", symbol, false, 0);
            ASK.no(1, "around", symbol, true, 9);
        }
        ASK.no(2, "around", 3, false, 0);
        ASK.no(2, "around", 3, true, 9);
        ASK.is(0, "around", 1, false, 0);
        ASK.is(1, "around", 1, false, 1);
        ASK.is(15, "around", 1, true, 0);
        for (int i : Asker.above(1)) {
            ASK.no(6, "around", 1, false, i);
        }
        for (int i : Asker.above(0)) {
            ASK.no(6, "around", 1, true, i);
        }
        ASK.no(6, "around", 0, false, 0);
        ASK.no(6, "around", 0, true, 0);
        ASK.no(6, "around", 2, false, 0);
        ASK.no(6, "around", 2, true, 0);
        ASK.begin(18, grammar("A=oHp;H=h;"));
        ASK.is(14, "around", 7, false, 0);
        ASK.is(15, "around", 7, true, 0);
    }

    private static void pair() {
        ASK.begin(19, RefusalsTest::small);
        for (int what : Asker.outside(0, 5)) {
            ASK.no(1, "pair", 0, what);
            ASK.no(1, "pair", 4, what);
        }
        for (int pair : Asker.below(0)) {
            ASK.no(1, "pair", pair, 0);
            ASK.no(1, "pair", pair, 6);
        }
        for (int pair : Asker.above(3)) {
            ASK.no(6, "pair", pair, 0);
            ASK.no(6, "pair", pair, 5);
        }
        ASK.is(0, "pair", 0, 0);
        ASK.is(1, "pair", 0, 5);
        ASK.is(3, "pair", 3, 0);
        ASK.is(2, "pair", 3, 5);
        ASK.begin("promise 19, no pairs", grammar("A=a;"));
        ASK.no(6, "pair", 0, 0);
        ASK.no(1, "pair", -1, 0);
    }

    private static void shown() {
        ASK.begin(20, RefusalsTest::small);
        for (int bad : Asker.below(0)) {
            ASK.no(1, "shown", 0, bad);
            ASK.no(1, "shown", bad, 0);
            ASK.no(1, "shown", 4, bad);
            ASK.no(1, "shown", bad, 9);
        }
        for (int pair : Asker.above(3)) {
            ASK.no(6, "shown", pair, 0);
        }
        int[] letters = {2, 3, 4, 3};
        int[] last = {2, 3, 3, 3};
        for (int pair = 0; pair < 4; pair++) {
            ASK.is(0, "shown", pair, 0);
            ASK.is(last[pair], "shown", pair, letters[pair] - 1);
            for (int i : Asker.above(letters[pair] - 1)) {
                ASK.no(6, "shown", pair, i);
            }
        }
    }

    private static void pairOf() {
        ASK.begin(21, RefusalsTest::small);
        for (int place : Asker.below(0)) {
            ASK.no(1, "pairOf", 0, place, 2);
            ASK.no(1, "pairOf", 4, place, 2);
            ASK.no(1, "pairOf", 0, place, -1);
        }
        for (int rule : Asker.outside(0, 3)) {
            ASK.no(2, "pairOf", rule, 0, 0);
            ASK.no(2, "pairOf", 0, 1, rule);
            ASK.no(2, "pairOf", rule, 4, rule);
        }
        ASK.is(0, "pairOf", 0, 1, 2);
        ASK.is(1, "pairOf", 0, 1, 3);
        ASK.is(2, "pairOf", 3, 0, 0);
        ASK.is(3, "pairOf", 3, 0, 1);
        ASK.no(6, "pairOf", 0, 0, 2);
        ASK.no(6, "pairOf", 0, 1, 0);
        ASK.no(6, "pairOf", 3, 1, 0);
        for (int place : Asker.above(1)) {
            ASK.no(6, "pairOf", 0, place, 2);
        }
        ASK.no(6, "pairOf", 0, 3, 3);
        ASK.begin(21, grammar("A=abcB|d;B=a|b|c|d|e|f|g|h|i|j|k|l|m|n;"));
        ASK.is(0, "pairOf", 0, 3, 2);
        ASK.is(13, "pairOf", 0, 3, 15);
        ASK.no(6, "pairOf", 0, 4, 15);
        ASK.no(2, "pairOf", 0, 3, 16);
    }

    private static void has() {
        ASK.begin(22, RefusalsTest::small);
        for (int bad : Asker.below(0)) {
            ASK.no(1, "has", bad, 0);
            ASK.no(1, "has", 0, bad);
            ASK.no(1, "has", bad, 4);
            ASK.no(1, "has", 4, bad);
        }
        for (int pair : Asker.above(3)) {
            ASK.no(6, "has", pair, 0);
            ASK.no(6, "has", 0, pair);
            ASK.no(6, "has", pair, pair);
        }
        ASK.is(1, "has", 0, 0);
        ASK.is(0, "has", 0, 3);
        ASK.is(1, "has", 3, 3);
        ASK.is(0, "has", 3, 0);
        ASK.begin("promise 22, no pairs", RefusalsTest::empty);
        ASK.no(6, "has", 0, 0);
        ASK.no(1, "has", -1, 0);
    }

    private static void cover() {
        ASK.begin(23, RefusalsTest::small);
        for (int what : Asker.outside(0, 4)) {
            ASK.no(1, "cover", 0, what);
            ASK.no(1, "cover", 2, what);
        }
        for (int k : Asker.below(0)) {
            ASK.no(1, "cover", k, 0);
            ASK.no(1, "cover", k, 5);
        }
        for (int k : Asker.above(1)) {
            ASK.no(6, "cover", k, 0);
            ASK.no(6, "cover", k, 4);
        }
        ASK.is(2, "cover", 0, 0);
        ASK.is(11, "cover", 0, 4);
        ASK.is(1, "cover", 1, 0);
        ASK.is(8, "cover", 1, 4);
        ASK.begin("promise 23, no pairs", grammar("A=a;"));
        ASK.no(6, "cover", 0, 0);
        ASK.no(1, "cover", -1, 0);
        ASK.no(1, "cover", 0, 5);
    }

    private static void by() {
        ASK.begin(24, RefusalsTest::small);
        for (int pair : Asker.below(0)) {
            ASK.no(1, "by", pair);
        }
        for (int pair : Asker.above(3)) {
            ASK.no(6, "by", pair);
        }
        ASK.is(0, "by", 0);
        ASK.is(1, "by", 3);
        ASK.begin("promise 24, no pairs", RefusalsTest::empty);
        ASK.no(6, "by", 0);
        ASK.no(1, "by", -1);
    }

    private static void wrong() {
        ASK.begin(25, RefusalsTest::small);
        for (int bad : Asker.below(0)) {
            ASK.no(1, "wrong", bad, 0, 0);
            ASK.no(1, "wrong", 0, bad, 0);
            ASK.no(1, "wrong", 2, bad, 0);
            ASK.no(1, "wrong", bad, 99, 0);
        }
        for (int what : Asker.outside(0, 1)) {
            ASK.no(1, "wrong", 0, 0, what);
            ASK.no(1, "wrong", 2, 0, what);
            ASK.no(1, "wrong", 0, 99, what);
        }
        for (int k : Asker.above(1)) {
            ASK.no(6, "wrong", k, 0, 0);
        }
        for (int i : Asker.above(10)) {
            ASK.no(6, "wrong", 0, i, 0);
            ASK.no(6, "wrong", 0, i, 1);
        }
        for (int i : Asker.above(7)) {
            ASK.no(6, "wrong", 1, i, 1);
        }
        ASK.is(0, "wrong", 0, 0, 0);
        ASK.is(1, "wrong", 0, 0, 1);
        ASK.is(3, "wrong", 0, 10, 0);
        ASK.is(2, "wrong", 0, 10, 1);
        ASK.is(2, "wrong", 1, 7, 0);
    }

    private static void foretells() {
        ASK.begin(26, RefusalsTest::small);
        for (int symbol : Asker.outside(0, 7)) {
            ASK.no(1, "foretells", symbol, 0);
            ASK.no(1, "foretells", symbol, 15);
        }
        for (int letter : Asker.outside(0, 15)) {
            ASK.no(1, "foretells", 0, letter);
            ASK.no(1, "foretells", 2, letter);
        }
        for (int symbol = 2; symbol < 8; symbol++) {
            ASK.no(2, "foretells", symbol, 0);
            ASK.no(2, "foretells", symbol, 15);
        }
        ASK.is(1, "foretells", 0, 0);
        ASK.is(0, "foretells", 0, 15);
        ASK.is(8, "foretells", 1, 1);
        ASK.begin(26, grammar(FULL));
        ASK.is(1 << 15, "foretells", 7, 15);
        ASK.is(1 << 14, "foretells", 7, 14);
        ASK.is(0, "foretells", 7, 0);
    }

    private static void neverRefused() {
        ASK.begin("promises 27, 28", RefusalsTest::small);
        ASK.is(0, "conflicts");
        ASK.is(2, "bound");
        ASK.begin("promises 27, 28, no grammar", RefusalsTest::empty);
        ASK.is(0, "conflicts");
        ASK.is(0, "bound");
        ASK.begin("promises 27, 28, all off", x -> {
            Feeder.load(x, "A=aA|a;");
            x.turn(0, false);
            x.turn(1, false);
        });
        ASK.is(0, "conflicts");
        ASK.is(0, "bound");
    }

    private static void trees() {
        ASK.begin(29, grammar("A=aA|a|p;H=A;"));
        for (int n : Asker.outside(1, 24)) {
            ASK.no(1, "trees", 0, n);
            ASK.no(1, "trees", 1, n);
            ASK.no(1, "trees", 8, n);
        }
        for (int symbol : Asker.outside(0, 7)) {
            ASK.no(1, "trees", symbol, 1);
            ASK.no(1, "trees", symbol, 24);
        }
        ASK.no(2, "trees", 1, 1);
        ASK.no(2, "trees", 6, 24);
        ASK.is(2, "trees", 0, 1);
        ASK.is(2, "trees", 0, 24);
        ASK.is(2, "trees", 7, 1);
        ASK.is(2, "trees", 7, 24);
        ASK.begin("promise 29, none", grammar("A=aa;B=Bb;"));
        ASK.is(0, "trees", 0, 1);
        ASK.is(1, "trees", 0, 2);
        ASK.is(0, "trees", 0, 3);
        ASK.is(0, "trees", 1, 24);
    }

    private static void tree() {
        ASK.begin(30, grammar("A=aA|a|p;H=A;"));
        for (int symbol : Asker.outside(0, 7)) {
            ASK.no(1, "tree", symbol, 1, 0, 0);
        }
        for (int n : Asker.outside(1, 24)) {
            ASK.no(1, "tree", 0, n, 0, 0);
            ASK.no(1, "tree", 1, n, 0, 0);
        }
        for (int bad : Asker.below(0)) {
            ASK.no(1, "tree", 0, 1, bad, 0);
            ASK.no(1, "tree", 0, 1, 0, bad);
            ASK.no(1, "tree", 1, 1, bad, 0);
            ASK.no(1, "tree", 1, 1, 0, bad);
            ASK.no(1, "tree", 0, 1, 2, bad);
            ASK.no(1, "tree", 0, 1, bad, 9);
        }
        ASK.no(2, "tree", 1, 1, 0, 0);
        ASK.no(2, "tree", 6, 24, 9, 99);
        ASK.is(0, "tree", 0, 1, 0, 0);
        ASK.is(15, "tree", 0, 1, 1, 0);
        ASK.is(15, "tree", 7, 24, 1, 23);
        ASK.is(0, "tree", 7, 24, 1, 22);
        for (int i : Asker.above(1)) {
            ASK.no(6, "tree", 0, 1, i, 0);
            ASK.no(6, "tree", 7, 24, i, 0);
        }
        for (int at : Asker.above(0)) {
            ASK.no(6, "tree", 0, 1, 0, at);
        }
        for (int at : Asker.above(23)) {
            ASK.no(6, "tree", 0, 24, 0, at);
        }
        ASK.begin("promise 30, none", grammar("A=aa;B=Bb;"));
        ASK.no(6, "tree", 0, 1, 0, 0);
        ASK.no(6, "tree", 0, 24, 0, 0);
        ASK.no(6, "tree", 1, 1, 0, 0);
    }

    private static void treeRule() {
        ASK.begin(31, grammar("A=aA|a|p;H=A;"));
        for (int symbol : Asker.outside(0, 7)) {
            ASK.no(1, "treeRule", symbol, 1, 0, 0);
        }
        for (int n : Asker.outside(1, 24)) {
            ASK.no(1, "treeRule", 0, n, 0, 0);
            ASK.no(1, "treeRule", 1, n, 0, 0);
        }
        for (int bad : Asker.below(0)) {
            ASK.no(1, "treeRule", 0, 1, bad, 0);
            ASK.no(1, "treeRule", 0, 1, 0, bad);
            ASK.no(1, "treeRule", 1, 1, bad, 0);
            ASK.no(1, "treeRule", 1, 1, 0, bad);
            ASK.no(1, "treeRule", 0, 1, 2, bad);
        }
        ASK.no(2, "treeRule", 1, 1, 0, 0);
        ASK.no(2, "treeRule", 6, 24, 9, 99);
        ASK.is(1, "treeRule", 0, 1, 0, 0);
        ASK.is(2, "treeRule", 0, 1, 1, 0);
        ASK.is(3, "treeRule", 7, 24, 0, 0);
        ASK.is(2, "treeRule", 7, 24, 1, 24);
        for (int i : Asker.above(1)) {
            ASK.no(6, "treeRule", 0, 1, i, 0);
            ASK.no(6, "treeRule", 7, 24, i, 0);
        }
        for (int k : Asker.above(0)) {
            ASK.no(6, "treeRule", 0, 1, 0, k);
        }
        for (int k : Asker.above(24)) {
            ASK.no(6, "treeRule", 7, 24, 1, k);
        }
        ASK.begin("promise 31, none", grammar("A=aa;B=Bb;"));
        ASK.no(6, "treeRule", 0, 1, 0, 0);
        ASK.no(6, "treeRule", 1, 24, 0, 0);
    }

    /** Of number, ways, parse: which texts are refused, with what behind n as far as the call has more. */
    private static void refusedTexts(int promise, String name, boolean sentencesAlone, Object... more) {
        ASK.begin(promise, grammar("A=aA|b|c;", "aaaaaaaaaaaaaaabb"));
        for (int n : Asker.outside(1, 16)) {
            ASK.no(1, name, with(n, more));
        }
        ASK.begin(promise, grammar("A=aA|b|c;", "aab?"));
        for (int n : Asker.outside(1, 4)) {
            ASK.no(1, name, with(n, more));
        }
        ASK.no(4, name, with(4, more));
        if (sentencesAlone) {
            ASK.no(5, name, with(1, more));
            ASK.no(5, name, with(2, more));
        } else {
            ASK.is(0, name, with(1, more));
            ASK.is(0, name, with(2, more));
        }
        ASK.begin("promise " + promise + ", a byte that is no LETTER ahead of one that makes no SENTENCE",
                grammar("A=aA|b|c;", "p`q"));
        ASK.no(4, name, with(2, more));
        ASK.no(4, name, with(3, more));
        ASK.no(1, name, with(4, more));
        ASK.begin("promise " + promise + ", an empty tape", grammar("A=aA|b|c;"));
        ASK.no(1, name, with(0, more));
        ASK.no(1, name, with(1, more));
        for (int b = 0; b < 256; b++) {
            SentenceMaker x = new SentenceMaker();
            Feeder.load(x, "A=a|b|c|d|e|f|g|h|i|j|k|l|m|n|o|p;");
            Feeder.put(x, "" + (char) b);
            Object[] args = with(1, more);
            long got = Asker.call(x, name, args);
            boolean letter = b >= 'a' && b <= 'p';
            CHECK.holds("promise " + promise + ": byte " + b + " is a LETTER or none", letter == (got != NONE)
                    && x.status() == (letter ? 0 : 4));
        }
    }

    private static Object[] with(int n, Object... more) {
        Object[] args = new Object[more.length + 1];
        args[0] = n;
        System.arraycopy(more, 0, args, 1, more.length);
        return args;
    }

    private static void number() {
        refusedTexts(32, "number", true);
        ASK.begin(32, grammar("A=aA|b|c;", "aaaaaaaaaaaaaaac"));
        ASK.is(1, "number", 16);
        ASK.begin(32, grammar("A=aA|b|c;", "cb"));
        ASK.is(1, "number", 1);
        ASK.begin("promise 32, no grammar", x -> Feeder.put(x, "a"));
        ASK.no(5, "number", 1);
    }

    private static void ways() {
        refusedTexts(33, "ways", false);
        ASK.begin(33, grammar("A=aA|b|c;", "aaaaaaaaaaaaaaac"));
        ASK.is(1, "ways", 16);
        ASK.is(0, "ways", 15);
        ASK.begin(33, grammar("A=aA|b|c;", "cb"));
        ASK.is(1, "ways", 1);
        ASK.is(0, "ways", 2);
        ASK.begin("promise 33, no grammar", x -> Feeder.put(x, "a"));
        ASK.is(0, "ways", 1);
    }

    private static void parse() {
        refusedTexts(34, "parse", true);
        ASK.begin(34, grammar("A=aA|b|c;", "aaaaaaaaaaaaaaac"));
        ASK.is(16, "parse", 16);
        ASK.begin(34, grammar("A=aA|b|c;", "cb"));
        ASK.is(1, "parse", 1);
        ASK.begin("promise 34, no grammar", x -> Feeder.put(x, "a"));
        ASK.no(5, "parse", 1);
    }

    private static void parsed() {
        refusedTexts(35, "parsed", true, 0);
        ASK.begin(35, grammar("A=aA|b|c;", "aac?"));
        for (int i : Asker.below(0)) {
            ASK.no(1, "parsed", 3, i);
            ASK.no(1, "parsed", 4, i);
            ASK.no(1, "parsed", 2, i);
        }
        for (int i : Asker.above(2)) {
            ASK.no(6, "parsed", 3, i);
            ASK.no(4, "parsed", 4, i);
            ASK.no(5, "parsed", 2, i);
            ASK.no(1, "parsed", 5, i);
        }
        ASK.is(0, "parsed", 3, 0);
        ASK.is(2, "parsed", 3, 2);
        ASK.begin(35, grammar("A=aA|b|c;", "aaaaaaaaaaaaaaac"));
        ASK.is(2, "parsed", 16, 15);
        ASK.no(6, "parsed", 16, 16);
    }

    private static Portrait.Setup ring(String tape) {
        return grammar("A=aA|a|b|c;", tape);
    }

    private static void shrinkTexts(int promise, String name, Object... more) {
        ASK.begin(promise, ring("aaaaaaaaaaaaaaaab"));
        for (int n : Asker.outside(1, 16)) {
            ASK.no(1, name, with(n, with(0, more)));
            ASK.no(1, name, with(n, with(4, more)));
        }
        ASK.begin(promise, ring("aab?"));
        for (int n : Asker.outside(1, 4)) {
            ASK.no(1, name, with(n, with(0, more)));
        }
        for (int rule : Asker.outside(0, 3)) {
            ASK.no(2, name, with(3, with(rule, more)));
            ASK.no(2, name, with(4, with(rule, more)));
            ASK.no(1, name, with(5, with(rule, more)));
        }
        ASK.no(4, name, with(4, with(0, more)));
        ASK.no(4, name, with(4, with(3, more)));
        ASK.no(5, name, with(3, with(1, more)));
        ASK.no(5, name, with(3, with(3, more)));
        ASK.begin(promise, ring("ba"));
        ASK.no(5, name, with(2, with(0, more)));
        ASK.no(5, name, with(2, with(2, more)));
        ASK.no(2, name, with(2, with(4, more)));
        ASK.begin("promise " + promise + ", the rule is off", x -> {
            ring("aab").on(x);
            x.turn(3, false);
        });
        ASK.no(5, name, with(3, with(3, more)));
        ASK.begin("promise " + promise + ", an empty tape", ring(""));
        ASK.no(1, name, with(1, with(0, more)));
        ASK.no(1, name, with(0, with(9, more)));
        ASK.begin("promise " + promise + ", no grammar", x -> Feeder.put(x, "a"));
        ASK.no(2, name, with(1, with(0, more)));
    }

    private static void shrink() {
        shrinkTexts(36, "shrink");
        ASK.begin(36, ring("aaaaaaaaaaaaaaac"));
        ASK.is(1, "shrink", 16, 3);
        ASK.is(2, "shrink", 16, 0);
        ASK.begin(36, ring("ca"));
        ASK.is(1, "shrink", 1, 3);
    }

    private static void shrunk() {
        shrinkTexts(37, "shrunk", 0);
        ASK.begin(37, ring("aab?"));
        for (int i : Asker.below(0)) {
            ASK.no(1, "shrunk", 3, 0, i);
            ASK.no(1, "shrunk", 3, 4, i);
            ASK.no(1, "shrunk", 4, 0, i);
            ASK.no(1, "shrunk", 3, 1, i);
        }
        for (int i : Asker.above(1)) {
            ASK.no(6, "shrunk", 3, 0, i);
            ASK.no(5, "shrunk", 3, 1, i);
            ASK.no(4, "shrunk", 4, 0, i);
            ASK.no(2, "shrunk", 3, 4, i);
        }
        ASK.is(0, "shrunk", 3, 0, 0);
        ASK.is(1, "shrunk", 3, 0, 1);
        ASK.is(1, "shrunk", 3, 2, 0);
        ASK.no(6, "shrunk", 3, 2, 1);
        ASK.begin(37, ring("aaaaaaaaaaaaaaac"));
        ASK.is(2, "shrunk", 16, 3, 0);
        ASK.no(6, "shrunk", 16, 3, 1);
    }

    private static void drop() {
        for (int bytes : new int[] {12, 20, 399, 400}) {
            ASK.begin("promise 38, " + bytes + " bytes", taped(bytes));
            for (int n : Asker.outside(0, bytes)) {
                ASK.no(1, "drop", n);
            }
            ASK.is(bytes, "drop", 0);
            for (int n : new int[] {1, bytes - 1, bytes}) {
                SentenceMaker x = new SentenceMaker();
                taped(bytes).on(x);
                CHECK.due("promise 38: drop of " + n, x.drop(n), bytes - n);
                CHECK.due("promise 38: STATUS of it", x.status(), 0);
                CHECK.due("promise 38: so many there are", x.drop(0), bytes - n);
                CHECK.due("promise 38: it is no ACT", x.many(10), 7);
            }
        }
        ASK.begin("promise 38, an empty tape", RefusalsTest::empty);
        ASK.is(0, "drop", 0);
        for (int n : Asker.outside(0, 0)) {
            ASK.no(1, "drop", n);
        }
    }

    public static void main(String[] args) {
        newObject();
        status();
        feed();
        fedBytes();
        load();
        faultyLoad();
        fault();
        turn();
        weigh();
        start();
        undo();
        many();
        rule();
        sign();
        ends();
        beside();
        yields();
        yielded();
        context();
        around();
        pair();
        shown();
        pairOf();
        has();
        cover();
        by();
        wrong();
        foretells();
        neverRefused();
        trees();
        tree();
        treeRule();
        number();
        ways();
        parse();
        parsed();
        shrink();
        shrunk();
        drop();
        CHECK.close("RefusalsTest");
    }
}
