import java.nio.charset.StandardCharsets;

/** Feeds texts to a KeyPath as its callers do. */
final class Player {
    private Player() {
    }

    /** Feeds a text, zeros behind it, and loads just its bytes. */
    static int load(KeyPath x, String text) {
        byte[] bytes = text.getBytes(StandardCharsets.ISO_8859_1);
        feed(x, bytes);
        return x.load(bytes.length);
    }

    static int feed(KeyPath x, byte[] bytes) {
        int last = 0;
        for (int at = 0; at < bytes.length; at += 20) {
            last = x.feed(four(bytes, at), four(bytes, at + 4), four(bytes, at + 8),
                    four(bytes, at + 12), four(bytes, at + 16));
        }
        return last;
    }

    static int four(byte[] bytes, int at) {
        int number = 0;
        for (int i = at; i < at + 4; i++) {
            number = number << 8 | (i < bytes.length ? bytes[i] & 255 : 0);
        }
        return number;
    }

    static KeyPath playing(String text) {
        KeyPath x = new KeyPath();
        load(x, text);
        return x;
    }
}
