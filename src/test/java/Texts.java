import java.nio.charset.StandardCharsets;
import java.util.Arrays;

/** Brings texts into an exchange by append and parse. */
final class Texts {
    private Texts() {
    }

    /** Appends a text, filled up with spaces to whole 20 bytes; returns the latest answer. */
    static int append(NewsExchange x, String text) {
        byte[] bytes = text.getBytes(StandardCharsets.ISO_8859_1);
        byte[] full = Arrays.copyOf(bytes, (bytes.length + 19) / 20 * 20);
        Arrays.fill(full, bytes.length, full.length, (byte) ' ');
        int length = 0;
        for (int i = 0; i < full.length; i += 20) {
            length = x.append(four(full, i), four(full, i + 4), four(full, i + 8), four(full, i + 12), four(full, i + 16));
        }
        return length;
    }

    static int four(byte[] bytes, int at) {
        return (bytes[at] & 255) << 24 | (bytes[at + 1] & 255) << 16 | (bytes[at + 2] & 255) << 8 | bytes[at + 3] & 255;
    }

    /** Appends a text to an empty buffer and parses just it. */
    static int parse(NewsExchange x, String text) {
        append(x, text);
        return x.parse(text.length());
    }

    static NewsExchange exchange(String text) {
        NewsExchange x = new NewsExchange();
        int code = parse(x, text);
        if (code != 0) {
            throw new IllegalStateException("a test's text is wrong at " + x.errorPosition() + ": " + text);
        }
        return x;
    }
}
