/** Puts texts on the tape of an object, twenty bytes at a time. */
final class Feeder {
    private Feeder() {
    }

    static int word(int[] bytes, int at) {
        int word = 0;
        for (int i = at; i < at + 4; i++) {
            word = word << 8 | (i < bytes.length ? bytes[i] & 255 : 0);
        }
        return word;
    }

    static int[] bytes(String text) {
        int[] bytes = new int[text.length()];
        for (int i = 0; i < bytes.length; i++) {
            bytes[i] = text.charAt(i);
        }
        return bytes;
    }

    /** Feeds a text; the rest of the last twenty bytes is 0. */
    static void feed(SentenceMaker maker, String text) {
        int[] bytes = bytes(text);
        for (int at = 0; at < bytes.length; at += 20) {
            maker.feed(word(bytes, at), word(bytes, at + 4), word(bytes, at + 8), word(bytes, at + 12),
                    word(bytes, at + 16));
        }
    }

    /** Loads just a text, whatever was on the tape. */
    static int load(SentenceMaker maker, String text) {
        maker.drop(maker.drop(0));
        feed(maker, text);
        return maker.load(text.length());
    }

    static SentenceMaker loaded(String text) {
        SentenceMaker maker = new SentenceMaker();
        load(maker, text);
        return maker;
    }

    /** Puts a text on an empty tape: all that is there goes first, and so do the bytes behind the text. */
    static void put(SentenceMaker maker, String text) {
        maker.drop(maker.drop(0));
        feed(maker, text);
        maker.drop((20 - text.length() % 20) % 20);
    }
}
