import java.util.Random;

/** Texts of grammars for tests: made at random from a seed, or spoilt. */
final class Grammars {
    private Grammars() {
    }

    private static String blank(Random random, int rate) {
        if (rate == 0 || random.nextInt(rate) != 0) {
            return "";
        }
        return random.nextBoolean() ? " " : "\n";
    }

    /** Makes the text of a grammar; it may have a ring, or symbols without trees, as it comes. */
    static String make(Random random) {
        int symbols = 1 + random.nextInt(random.nextInt(3) == 0 ? 8 : 4);
        int letters = 1 + random.nextInt(random.nextInt(3) == 0 ? 16 : 4);
        int rules = symbols + random.nextInt(17 - symbols);
        int symbolRate = 1 + random.nextInt(9);
        int longest = 1 + random.nextInt(4);
        int weightRate = random.nextInt(3);
        int blankRate = random.nextInt(4) == 0 ? 3 : 0;
        boolean downward = random.nextInt(3) == 0;
        int[] share = new int[symbols];
        for (int r = 0; r < rules; r++) {
            share[r < symbols ? r : random.nextInt(symbols)]++;
        }
        int shift = random.nextInt(9 - symbols);
        int letterShift = random.nextInt(17 - letters);
        StringBuilder out = new StringBuilder();
        for (int s = 0; s < symbols; s++) {
            out.append((char) ('A' + shift + s)).append(blank(random, blankRate)).append('=');
            for (int r = 0; r < share[s]; r++) {
                out.append(r == 0 ? "" : "|").append(blank(random, blankRate));
                int size = 1 + random.nextInt(longest);
                for (int k = 0; k < size; k++) {
                    boolean symbol = random.nextInt(10) < symbolRate && !(size == 1 && random.nextInt(3) != 0);
                    int least = downward ? Math.min(s + 1, symbols - 1) : 0;
                    if (symbol && !(downward && s == symbols - 1)) {
                        out.append((char) ('A' + shift + least + random.nextInt(symbols - least)));
                    } else {
                        out.append((char) ('a' + letterShift + random.nextInt(letters)));
                    }
                    out.append(blank(random, blankRate));
                }
                if (weightRate > 0 && random.nextInt(2) < weightRate) {
                    out.append(':').append(blank(random, blankRate)).append(random.nextInt(10));
                }
            }
            out.append(blank(random, blankRate)).append(';').append(blank(random, blankRate));
        }
        return out.length() > 400 ? out.substring(0, 400) : out.toString();
    }

    /** Spoils a text by one byte, or cuts it off. */
    static String spoil(Random random, String text) {
        String signs = "ABHIaopq0129=|;: \n\u0000\u00ff";
        int at = random.nextInt(text.length() + 1);
        char c = signs.charAt(random.nextInt(signs.length()));
        switch (random.nextInt(4)) {
            case 0:
                return text.substring(0, at);
            case 1:
                return text.substring(0, at) + c + text.substring(at);
            case 2:
                return at == text.length() ? text : text.substring(0, at) + c + text.substring(at + 1);
            default:
                return at == text.length() ? text : text.substring(0, at) + text.substring(at + 1);
        }
    }
}
