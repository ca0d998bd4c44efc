import java.nio.charset.StandardCharsets;

/** Puts texts on an object's tape. */
final class Tapes {
    private Tapes() {
    }

    /** The five ints that feed twenty bytes, those from a place of a text on, blanks behind its end. */
    static int[] twenty(byte[] text, int from) {
        int[] ints = new int[5];
        for (int k = 0; k < 20; k++) {
            int one = from + k < text.length ? text[from + k] & 255 : ' ';
            ints[k / 4] = ints[k / 4] << 8 | one;
        }
        return ints;
    }

    static byte[] bytes(String text) {
        return text.getBytes(StandardCharsets.ISO_8859_1);
    }

    /** Feeds a text of 2,000 bytes at most, to the byte. */
    static void feed(OneClock clock, String text) {
        byte[] bytes = bytes(text);
        for (int from = 0; from < bytes.length; from += 20) {
            int[] ints = twenty(bytes, from);
            clock.feed(ints[0], ints[1], ints[2], ints[3], ints[4]);
        }
        clock.back((20 - bytes.length % 20) % 20);
    }

    /** A new object by which a text was read. */
    static OneClock reading(String text) {
        OneClock clock = new OneClock();
        feed(clock, text);
        clock.read();
        return clock;
    }
}
