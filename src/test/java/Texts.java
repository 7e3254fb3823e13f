import java.nio.charset.StandardCharsets;

/** Puts texts on the tape of a LawfulLots. */
final class Texts {
    private Texts() {
    }

    static int read(LawfulLots lots, String text) {
        feed(lots, text.getBytes(StandardCharsets.ISO_8859_1));
        return lots.read();
    }

    /** Feeds come by twenty bytes; what the last one has too many is taken back. */
    static void feed(LawfulLots lots, byte[] text) {
        int feeds = (text.length + 19) / 20;
        for (int f = 0; f < feeds; f++) {
            int[] words = new int[5];
            for (int b = 0; b < 20; b++) {
                int at = f * 20 + b;
                int one = at < text.length ? text[at] & 255 : ' ';
                words[b / 4] = words[b / 4] << 8 | one;
            }
            lots.feed(words[0], words[1], words[2], words[3], words[4]);
        }
        lots.back(feeds * 20 - text.length);
    }

    static LawfulLots lotsOf(String text) {
        LawfulLots lots = new LawfulLots();
        int fault = read(lots, text);
        if (fault != 0) {
            throw new IllegalStateException("fault " + fault + " at " + lots.place() + " in " + text);
        }
        return lots;
    }
}
