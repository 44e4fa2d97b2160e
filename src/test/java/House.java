import java.nio.charset.StandardCharsets;
import java.util.Base64;

/** An object of the class, with rows and OUT as Java's own bytes. */
final class House {
    static final int NONE = SealedTokens.NONE, BAD = SealedTokens.BAD, LARGE = SealedTokens.LARGE, RANDOM = SealedTokens.RANDOM, POINT = SealedTokens.POINT;
    static final int FORM = SealedTokens.FORM, PART = SealedTokens.PART, TEXT = SealedTokens.TEXT, HEAD = SealedTokens.HEAD, NAMES = SealedTokens.NAMES;
    static final int ALG = SealedTokens.ALG, KEY = SealedTokens.KEY, WRONG = SealedTokens.WRONG;

    final SealedTokens x = new SealedTokens();

    /** A text is at hand, OUT, the tape, two rows and a key are there: what a refusal changed would be seen. */
    static House lived() {
        House h = new House().put(0, "{\"a\":[7,\"seven\"]}").put(7, Keys.oct(bytes("never used"), ",\"kid\":\"nobody's\",\"use\":\"none\""));
        h.x.json(0);
        h.x.key(7);
        h.mark();
        h.x.feed(0x01020304, -1, 3, 4, 5);
        return h;
    }

    /** By the tape, which is empty then. */
    House put(int r, byte[] bytes) {
        x.end(0);
        for (int i = 0; i < bytes.length && i < 8180; i += 20) {
            feed(bytes, i);
        }
        if (bytes.length > 8180) {
            x.end(bytes.length - 20);
            feed(bytes, bytes.length - 20);
        }
        Check.same("end", x.end(bytes.length), bytes.length);
        Check.same("row", x.row(r), bytes.length);
        return this;
    }

    private void feed(byte[] bytes, int i) {
        x.feed(word(bytes, i), word(bytes, i + 4), word(bytes, i + 8), word(bytes, i + 12), word(bytes, i + 16));
    }

    House put(int r, String text) {
        return put(r, bytes(text));
    }

    private static int word(byte[] bytes, int from) {
        int word = 0;
        for (int i = from; i < from + 4; i++) {
            word = word << 8 | (i < bytes.length ? bytes[i] & 255 : 0);
        }
        return word;
    }

    byte[] out() {
        byte[] bytes = new byte[x.size(-1)];
        for (int i = 0; i < bytes.length; i++) {
            bytes[i] = (byte) x.out(i);
        }
        return bytes;
    }

    String outText() {
        return new String(out(), StandardCharsets.ISO_8859_1);
    }

    /** What an earlier call left in OUT, so that a refusal can be seen to leave it. */
    House mark() {
        put(7, "OUT as it was");
        x.encode(7);
        return this;
    }

    void unmarked(String what) {
        Check.that(what + " changed OUT", outText().equals(letters("OUT as it was")));
    }

    static byte[] bytes(String text) {
        return text.getBytes(StandardCharsets.ISO_8859_1);
    }

    static byte[] utf8(String text) {
        return text.getBytes(StandardCharsets.UTF_8);
    }

    static String letters(byte[] bytes) {
        return Base64.getUrlEncoder().withoutPadding().encodeToString(bytes);
    }

    static String letters(String text) {
        return letters(bytes(text));
    }

    static byte[] unletters(String text) {
        return Base64.getUrlDecoder().decode(text);
    }

    static byte[] hex(String digits) {
        byte[] bytes = new byte[digits.length() / 2];
        for (int i = 0; i < bytes.length; i++) {
            bytes[i] = (byte) Integer.parseInt(digits.substring(2 * i, 2 * i + 2), 16);
        }
        return bytes;
    }

    static byte[] join(byte[]... parts) {
        int many = 0;
        for (byte[] part : parts) {
            many += part.length;
        }
        byte[] all = new byte[many];
        int at = 0;
        for (byte[] part : parts) {
            System.arraycopy(part, 0, all, at, part.length);
            at += part.length;
        }
        return all;
    }
}
