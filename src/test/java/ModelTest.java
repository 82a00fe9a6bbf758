import java.util.List;
import java.util.Random;

/** Runs of calls from fixed seeds, on the class and on its model. */
public final class ModelTest {
    private ModelTest() {
    }

    /** All that can be asked of the present grammar, from one below to one above what there is. */
    private static void askAll(Both both, Random random) {
        for (int what = -1; what <= 11; what++) {
            both.call(5, what, 0, 0, 0);
        }
        int rules = both.model.many(0);
        int pairs = both.model.many(8);
        int cover = both.model.many(9);
        for (int s = -1; s <= 8; s++) {
            for (int what = -1; what <= 6; what++) {
                both.call(8, s, what, 0, 0);
                both.call(10, s, what, 0, 0);
                both.call(12, s, what, 0, 0);
            }
            for (int i = -1; i <= 6; i++) {
                both.call(11, s, i, 0, 0);
                both.call(13, s, i, 0, 0);
                both.call(13, s, i, 1, 0);
            }
            for (int l = -1; l <= 16; l++) {
                both.call(21, s, l, 0, 0);
            }
        }
        for (int l = -2; l <= 16; l++) {
            both.call(9, l, 0, 0, 0);
        }
        for (int r = -1; r <= rules; r++) {
            for (int i = -1; i <= 4; i++) {
                both.call(6, r, i, 0, 0);
                both.call(7, r, i, 0, 0);
            }
        }
        for (int p = -1; p <= pairs; p += pairs > 200 ? 1 + random.nextInt(9) : 1) {
            for (int what = -1; what <= 6; what++) {
                both.call(14, p, what, 0, 0);
            }
            both.call(15, p, random.nextInt(20) - 1, 0, 0);
            both.call(17, p, random.nextInt(pairs + 2) - 1, 0, 0);
            both.call(17, random.nextInt(pairs + 2) - 1, p, 0, 0);
            both.call(19, p, 0, 0, 0);
        }
        for (int i = 0; i < 60; i++) {
            both.call(16, random.nextInt(18) - 1, random.nextInt(6) - 1, random.nextInt(18) - 1, 0);
        }
        for (int k = -1; k <= cover; k += cover > 100 ? 1 + random.nextInt(9) : 1) {
            for (int what = -1; what <= 5; what++) {
                both.call(18, k, what, 0, 0);
            }
            for (int i = 0; i < 8; i++) {
                both.call(20, k, random.nextInt(40) - 1, random.nextInt(4) - 1, 0);
            }
        }
        both.call(22, 0, 0, 0, 0);
        both.call(23, 0, 0, 0, 0);
        askTrees(both, random);
        askTexts(both, random);
    }

    private static void askTrees(Both both, Random random) {
        for (int i = 0; i < 25; i++) {
            both.call(24, random.nextInt(10) - 1, random.nextInt(27) - 1, 0, 0);
        }
        for (int i = 0; i < 25; i++) {
            int symbol = random.nextInt(8);
            int n = 1 + random.nextInt(24);
            long trees = both.model.trees(symbol, n);
            int most = (int) Math.min(Math.max(trees, 0), Integer.MAX_VALUE - 1);
            int number = random.nextInt(most + 1) + random.nextInt(2);
            for (int k = 0; k < 6; k++) {
                both.call(25, symbol, n, number, random.nextInt(n + 2) - 1);
                both.call(26, symbol, n, number, random.nextInt(2 * n + 2) - 1);
            }
        }
    }

    /** Texts: trees that the model made, with and without a letter changed, and letters as they come. */
    private static void askTexts(Both both, Random random) {
        for (int i = 0; i < 12; i++) {
            int n = 1 + random.nextInt(16);
            int[] letters = new int[16];
            int start = both.model.many(2);
            long trees = Math.max(both.model.trees(start, n), 0);
            int number = random.nextInt((int) Math.min(trees, 1000000000L) + 1);
            for (int at = 0; at < n; at++) {
                int letter = both.model.tree(start, n, number, at);
                letters[at] = letter == SentenceMaker.NONE ? random.nextInt(4) : letter;
            }
            if (random.nextInt(4) == 0) {
                letters[random.nextInt(n)] = random.nextInt(16);
            }
            both.put(letters, n);
            int most = random.nextInt(5) == 0 ? 1 + random.nextInt(17) : n;
            for (int which = 27; which <= 29; which++) {
                both.call(which, most, 0, 0, 0);
            }
            for (int k = 0; k < 6; k++) {
                both.call(30, most, random.nextInt(12) - 1, 0, 0);
            }
            for (int k = 0; k < 3; k++) {
                int rule = random.nextInt(18) - 1;
                both.call(31, most, rule, 0, 0);
                both.call(32, most, rule, random.nextInt(8) - 1, 0);
                both.call(32, most, rule, random.nextInt(8) - 1, 0);
            }
            both.call(28, n, 0, 0, 0);
            both.call(29, n, 0, 0, 0);
        }
    }

    private static void changeOne(Both both, Random random) {
        switch (random.nextInt(5)) {
            case 0:
                both.call(2, random.nextInt(18) - 1, random.nextInt(12) - 1, 0, 0);
                break;
            case 1:
                both.call(3, random.nextInt(10) - 1, 0, 0, 0);
                break;
            case 2:
                both.call(4, 0, 0, 0, 0);
                break;
            default:
                both.call(1, random.nextInt(18) - 1, random.nextInt(3) == 0 ? 1 : 0, 0, 0);
                break;
        }
    }

    private static void wholeGrammars(Check check, int from, int to) {
        for (int seed = from; seed < to; seed++) {
            Random random = new Random(seed);
            Both both = new Both(check, "grammar " + seed);
            for (int i = 0; i < 4 && both.model.state.rules.isEmpty(); i++) {
                both.load(Grammars.make(random));
            }
            askAll(both, random);
            for (int i = 0; i < 2; i++) {
                changeOne(both, random);
                changeOne(both, random);
                askAll(both, random);
            }
        }
    }

    /** Grammars that go to the edges: costs about 200, counts above what is told, most pairs, long chains. */
    private static final String[] SPECIAL = {
        "A=AAAA|AAAA|AAAA|AAAA|AAAA|AAAA|AAAA|AAAA|AAAA|AAAA|AAAA|AAAA|AAAA|AAAA|AAAA|a;",
        "A=AA|a|a|a|a|a|a|b|b|b|b|b|b|b|b|b;",
        "A=AA|AAA|AAAA|a|b;",
        "A=B|aH;B=C|bA;C=D|cB;D=E|dC;E=F|eD;F=G|fE;G=H|gF;H=h|pG;",
        "A=B:0|HH:0;B=C:0|b:9;C=D:0|c:9;D=E:0|d:9;E=F:0|e:9;F=G:0|f:9;G=H:0|g:9;H=h:0|AA:0;",
        "A=BBBB:0|a;B=CCCC:0|b:0;C=DDDD:0|c;D=dd:1|AAAA:9;",
        "A=BBBB:0;B=CCCC:0;C=aaaa:8;",
        "A=BBBB:8;B=CCCC:0;C=aaaa:8;",
        "A=BBBB:9;B=CCCC:0;C=aaaa:8|aa:9;",
        "A=BBB:9|aC;B=CCCC:7|Bb;C=DDDD:5|cC;D=aaaa:9|Ba;E=ABCD|e;",
        "A=BCDE|aAb;B=CDEF|b;C=DEFG|c;D=EFGH|d;E=FGHA|e;F=GHAB|f;G=HABC|g;H=ABCD|h;",
        "A=BCDE:9|p;B=CDEF:9;C=DEFG:9;D=EFGH:9;E=FGHH:9;F=GGHH:9;G=HHHH:9;H=a:9|hh:9;",
        "A=BB:0;B=CC:0;C=DD:0;D=EE:0;E=FF:0;F=GG:0;G=HH:0;H=a:0;",
        "A=BB:1;B=CC:1;C=DD:1;D=EE:1;E=FF:1;F=GG:1;G=HH:1;H=a:0|A;",
        "A=aAa|bAb|cAc|aa|bb|cc|AA;",
        "A=aB|bB|cB|dB|C;B=eC|fC|gC|hC|A;C=iA|jA|kA|lA|m|n;",
        "A=BC;B=b|bB|BbB|CC;C=c|cC|B|CcB|Bc;D=A|BD|DD|d|dA|DC;",
        "A=aA:9|bA:9|cA:9|d:9;",
        "A=Ba|Ab;B=Bb|Aa;C=c|Ac|CA|CC;",
        "H=Hp|p|oH|o;",
    };

    private static void specialGrammars(Check check, int rounds) {
        for (int g = 0; g < SPECIAL.length; g++) {
            Random random = new Random(g);
            Both both = new Both(check, "special " + g);
            both.load(SPECIAL[g]);
            askAll(both, random);
            for (int i = 0; i < rounds; i++) {
                changeOne(both, random);
                changeOne(both, random);
                askAll(both, random);
            }
        }
    }

    private static final int[] EXTREMES = {Integer.MIN_VALUE, Integer.MIN_VALUE + 1, -65536, -17, -1, 0, 1, 2, 3, 4,
        5, 7, 8, 15, 16, 17, 23, 24, 25, 63, 64, 255, 256, 399, 400, 401, 1023, 1024, 65536, Integer.MAX_VALUE - 20,
        Integer.MAX_VALUE - 1, Integer.MAX_VALUE};

    /** Every call with numbers far out, on a new object and on one that has a grammar. */
    private static void extremes(Check check) {
        for (int seed = 0; seed < 60; seed++) {
            Random random = new Random(seed);
            Both both = new Both(check, "extremes " + seed);
            if (seed % 3 != 0) {
                both.load(SPECIAL[seed % SPECIAL.length]);
            }
            for (int which = 0; which < Both.CALLS; which++) {
                for (int i = 0; i < 12; i++) {
                    both.call(which, EXTREMES[random.nextInt(EXTREMES.length)],
                            EXTREMES[random.nextInt(EXTREMES.length)], EXTREMES[random.nextInt(EXTREMES.length)],
                            EXTREMES[random.nextInt(EXTREMES.length)]);
                }
            }
        }
    }

    /** Trees made one by one, in the order of the document, and each text's own tree found again by its number. */
    private static void enumerated(Check check, int from, int to) {
        for (int seed = from; seed < to; seed++) {
            Random random = new Random(seed);
            String text = Grammars.make(random);
            SentenceMaker maker = Feeder.loaded(text);
            Model model = new Model();
            for (int at = 0; at < text.length(); at += 20) {
                int[] bytes = Feeder.bytes(text);
                model.feed(Feeder.word(bytes, at), Feeder.word(bytes, at + 4), Feeder.word(bytes, at + 8),
                        Feeder.word(bytes, at + 12), Feeder.word(bytes, at + 16));
            }
            model.load(text.length());
            int start = model.state.start;
            for (int n = 1; n <= 7; n++) {
                for (int symbol = 0; symbol < 8; symbol++) {
                    long trees = model.trees(symbol, n);
                    if (trees > 0 && trees <= 200) {
                        sameTrees(check, text, maker, symbol, n, model.allTrees(symbol, n), model);
                    }
                }
                if (model.trees(start, n) > 0) {
                    foundAgain(check, text, maker, start, n);
                }
            }
        }
    }

    private static void sameTrees(Check check, String text, SentenceMaker maker, int symbol, int n,
            List<Model.Tree> all, Model model) {
        check.due(text + " trees " + symbol + " " + n, maker.trees(symbol, n), all.size());
        for (int i = 0; i < all.size(); i++) {
            List<Integer> letters = model.lettersOf(all.get(i));
            List<Integer> rules = model.rulesOf(all.get(i));
            for (int at = 0; at < letters.size(); at++) {
                check.due(text + " tree " + symbol + " " + n + " " + i + " " + at, maker.tree(symbol, n, i, at),
                        letters.get(at));
            }
            for (int k = 0; k < rules.size(); k++) {
                check.due(text + " treeRule " + symbol + " " + n + " " + i + " " + k,
                        maker.treeRule(symbol, n, i, k), rules.get(k));
            }
            check.due(text + " rules end", maker.treeRule(symbol, n, i, rules.size()), SentenceMaker.NONE);
        }
    }

    /** The own tree has the number by which it is told, and it is the one of that number. */
    private static void foundAgain(Check check, String text, SentenceMaker maker, int start, int n) {
        long trees = Math.min(maker.trees(start, n), 20);
        for (int i = 0; i < trees; i++) {
            StringBuilder made = new StringBuilder();
            for (int at = 0; at < n; at++) {
                made.append((char) ('a' + maker.tree(start, n, i, at)));
            }
            Feeder.put(maker, made.toString());
            int number = (int) maker.number(n);
            int rules = maker.parse(n);
            check.holds(text + " " + made + " is a sentence", rules > 0 && maker.ways(n) > 0);
            for (int k = 0; k <= rules; k++) {
                check.due(text + " " + made + " rule " + k, maker.treeRule(start, n, number, k), maker.parsed(n, k));
            }
            for (int at = 0; at < n; at++) {
                check.due(text + " " + made + " letter " + at, maker.tree(start, n, number, at),
                        made.charAt(at) - 'a');
            }
        }
    }

    /** Short texts that are much like one another, longer and shorter, so that what is kept of one serves the next. */
    private static void likeTexts(Check check, int from, int to) {
        for (int seed = from; seed < to; seed++) {
            Random random = new Random(seed);
            Both both = new Both(check, "texts " + seed);
            String[] grammars = {"A=AA|a|b|aAb|bAa|B;B=bb|aB|ba;", "A=aA|bB|a;B=bA|aB|b;", "A=aAa|bAb|a|b|AA;",
                "A=BA|B;B=a|bb|aab;", "A=aAbA|ab|aAb|abA;"};
            both.load(grammars[seed % grammars.length]);
            int[] letters = new int[16];
            for (int i = 0; i < 40; i++) {
                int n = 1 + random.nextInt(7);
                letters[random.nextInt(n)] = random.nextInt(2);
                both.put(letters, n);
                both.call(27 + random.nextInt(3), n, 0, 0, 0);
                both.call(28, 1 + random.nextInt(n), 0, 0, 0);
                both.call(30, n, random.nextInt(6), 0, 0);
                int rule = random.nextInt(6);
                both.call(31, n, rule, 0, 0);
                both.call(32, n, rule, random.nextInt(4), 0);
                if (random.nextInt(8) == 0) {
                    changeOne(both, random);
                }
            }
        }
    }

    private static void faults(Check check, int from, int to) {
        for (int seed = from; seed < to; seed++) {
            Random random = new Random(seed);
            Both both = new Both(check, "fault " + seed);
            for (int i = 0; i < 20; i++) {
                String text = Grammars.make(random);
                int times = random.nextInt(3);
                for (int k = 0; k < times; k++) {
                    text = Grammars.spoil(random, text);
                }
                if (text.length() <= 400) {
                    both.load(text);
                }
                both.call(5, random.nextInt(4), 0, 0, 0);
                both.call(5, 10, 0, 0, 0);
            }
        }
    }

    private static int someNumber(Random random) {
        switch (random.nextInt(12)) {
            case 0:
                return random.nextInt(30) - 3;
            case 1:
                return random.nextInt();
            default:
                return random.nextInt(9) - 1;
        }
    }

    /** Calls in no order at all, changes among them, up to the 512 that an object is used for. */
    private static void mixedRuns(Check check, int from, int to) {
        for (int seed = from; seed < to; seed++) {
            Random random = new Random(seed);
            Both both = new Both(check, "mixed " + seed);
            both.load(Grammars.make(random));
            for (int i = 0; i < 440; i++) {
                int which = random.nextInt(Both.CALLS + 4);
                if (which >= Both.CALLS) {
                    int n = 1 + random.nextInt(16);
                    int[] letters = new int[n];
                    for (int k = 0; k < n; k++) {
                        letters[k] = random.nextInt(3);
                    }
                    both.put(letters, n);
                } else if (which > 4 || random.nextInt(4) == 0) {
                    both.call(which, someNumber(random), someNumber(random), someNumber(random), someNumber(random));
                }
            }
        }
    }

    public static void main(String[] args) {
        int scale = args.length > 0 ? Integer.parseInt(args[0]) : 1;
        int base = args.length > 1 ? Integer.parseInt(args[1]) : 0;
        Check check = new Check();
        faults(check, base, base + 200 * scale);
        wholeGrammars(check, base, base + 150 * scale);
        mixedRuns(check, base, base + 150 * scale);
        specialGrammars(check, 3 * scale);
        extremes(check);
        likeTexts(check, base, base + 60 * scale);
        enumerated(check, base, base + 100 * scale);
        check.close("ModelTest");
    }
}
