import java.nio.charset.StandardCharsets;

/** Puts texts on the tape of a Gearbox. */
final class Tape {
    private Tape() {
    }

    /** Feeds the bytes of a text, twenty at a time, and trims what is behind them. */
    static void put(Gearbox box, String text) {
        byte[] bytes = text.getBytes(StandardCharsets.ISO_8859_1);
        int ahead = box.trim(0);
        for (int at = 0; at < bytes.length; at += 20) {
            box.feed(word(bytes, at), word(bytes, at + 4), word(bytes, at + 8), word(bytes, at + 12),
                word(bytes, at + 16));
        }
        box.trim(ahead + bytes.length);
    }

    static int load(Gearbox box, String text) {
        put(box, text);
        return box.load();
    }

    /** A new object with a program that has no error. */
    static Gearbox with(String text) {
        Gearbox box = new Gearbox();
        int error = load(box, text);
        if (error != 0) {
            throw new AssertionError("error " + error + " at " + box.errorAt() + " in: " + text);
        }
        return box;
    }

    private static int word(byte[] bytes, int at) {
        int word = 0;
        for (int n = 0; n < 4; n++) {
            word = word << 8 | (at + n < bytes.length ? bytes[at + n] & 255 : 32);
        }
        return word;
    }
}
