import java.util.Arrays;
import java.util.Random;

/** Promises 15 and 16. */
public final class LettersTest {
    public static void main(String[] args) {
        House h = new House();
        Random random = new Random(3);
        for (int many = 0; many < 70; many++) {
            byte[] bytes = new byte[many];
            random.nextBytes(bytes);
            String due = House.letters(bytes);
            h.put(0, bytes);
            Check.same("encode", h.x.encode(0), due.length());
            Check.that("encode", h.outText().equals(due));
            h.x.keep(1);
            Check.same("decode", h.x.decode(1), many);
            Check.same("decode", h.out(), bytes);
        }
        large(h);
        faults();
        everyByte();
        refusals(h);
        Check.end();
    }

    private static void large(House h) {
        byte[] bytes = new byte[6144];
        new Random(8).nextBytes(bytes);
        h.put(0, bytes);
        Check.same("encode", h.x.encode(0), 8192);
        Check.that("encode", h.outText().equals(House.letters(bytes)));
        h.x.keep(2);
        Check.same("decode", h.x.decode(2), 6144);
        Check.same("decode", h.out(), bytes);
        h.mark().put(0, Arrays.copyOf(bytes, 6145));
        Check.same("encode", h.x.encode(0), House.LARGE);
        h.put(0, new byte[8192]);
        Check.same("encode", h.x.encode(0), House.LARGE);
        h.unmarked("encode");
    }

    private static void fault(String letters, int place) {
        House h = new House().mark().put(0, letters);
        Check.same("decode " + letters, h.x.decode(0), -100 - place);
        h.unmarked("decode");
    }

    private static void faults() {
        fault("A", 1);
        fault("AAAAA", 5);
        fault("AB", 1);
        fault("AAAAAP", 5);
        fault("AAB", 2);
        fault("AAC", 2);
        fault("AI", 1);
        fault("A=", 1);
        fault("AA==", 2);
        fault("=", 0);
        fault("+AAA", 0);
        fault("AA/A", 2);
        fault("AAAA ", 4);
        fault("A\n", 1);
        fault(".AAA", 0);
        fault("AAAAA.", 5);
        fault("AB.", 2);
        fault("\u00ff", 0);
        fault("A".repeat(8189), 8189);
        fault("A".repeat(8190) + "B", 8190);
        String[] right = {"AA", "AQ", "_w", "AAA", "AAE", "__8", "-_-_"};
        for (String letters : right) {
            House h = new House().put(0, letters);
            Check.same("decode " + letters, h.x.decode(0), letters.length() * 3 / 4);
            Check.same("decode " + letters, h.out(), House.unletters(letters));
        }
    }

    private static void everyByte() {
        String all = "ABCDEFGHIJKLMNOPQRSTUVWXYZabcdefghijklmnopqrstuvwxyz0123456789-_";
        for (int b = 0; b < 256; b++) {
            House h = new House().put(0, new byte[] {'A', 'A', 'A', (byte) b});
            int value = all.indexOf(b);
            Check.same("decode", h.x.decode(0), value < 0 ? -103 : 3);
            if (value >= 0) {
                Check.same("its value", h.x.out(2), value);
            }
            House two = new House().put(0, new byte[] {'A', (byte) b});
            Check.same("two", two.x.decode(0), value < 0 || (value & 15) != 0 ? -101 : 1);
            House three = new House().put(0, new byte[] {'A', 'A', (byte) b});
            Check.same("three", three.x.decode(0), value < 0 || (value & 3) != 0 ? -102 : 2);
        }
    }

    private static void refusals(House h) {
        for (int r : new int[] {-1, 8, Integer.MIN_VALUE, Integer.MAX_VALUE}) {
            Check.same("encode", h.x.encode(r), House.BAD);
            Check.same("decode", h.x.decode(r), House.BAD);
        }
    }
}
