import java.lang.reflect.Constructor;
import java.lang.reflect.Method;
import java.lang.reflect.Modifier;
import java.util.Arrays;
import java.util.Random;

/** Promises 1 to 8, and the face. */
public final class BytesTest {
    public static void main(String[] args) {
        face();
        newObject();
        tape();
        fullTape();
        rows();
        poke();
        Check.end();
    }

    private static void face() {
        int methods = 0;
        for (Method m : SealedTokens.class.getDeclaredMethods()) {
            boolean open = Modifier.isPublic(m.getModifiers());
            methods += open ? 1 : 0;
            Check.that(m + " is neither public nor private", open || Modifier.isPrivate(m.getModifiers()) || m.isSynthetic());
        }
        Check.same("public methods", methods, 33);
        Constructor<?>[] made = SealedTokens.class.getDeclaredConstructors();
        Check.that("one public constructor", made.length == 1 && Modifier.isPublic(made[0].getModifiers()) && made[0].getParameterCount() == 0);
        Check.that("final", Modifier.isFinal(SealedTokens.class.getModifiers()));
        int[] constants = {SealedTokens.NONE, SealedTokens.BAD, SealedTokens.LARGE, SealedTokens.RANDOM, SealedTokens.POINT, SealedTokens.FORM,
            SealedTokens.PART, SealedTokens.TEXT, SealedTokens.HEAD, SealedTokens.NAMES, SealedTokens.ALG, SealedTokens.KEY, SealedTokens.WRONG};
        Check.that("constants", Arrays.equals(constants, new int[] {-1, -2, -3, -4, -5, -20, -21, -22, -23, -24, -25, -26, -27}));
    }

    private static void newObject() {
        SealedTokens x = new SealedTokens();
        for (int r = 0; r < 8; r++) {
            Check.same("size", x.size(r), 0);
        }
        Check.same("OUT", x.size(-1), 0);
        Check.same("out", x.out(0), -1);
        Check.same("tape", x.end(1), -2);
        Check.same("tape", x.end(0), 0);
        for (int k = -1; k <= 16; k++) {
            Check.same("key", x.told(k, 0), -2);
        }
        Check.same("text", x.value(0, 0), -2);
    }

    private static void tape() {
        SealedTokens x = new SealedTokens();
        Check.same("feed", x.feed(0x01020304, 0x85868788, -1, 0, 0x7f000001), 20);
        Check.same("feed", x.feed(1, 2, 3, 4, 5), 40);
        Check.same("end", x.end(41), -2);
        Check.same("end", x.end(-1), -2);
        Check.same("end", x.end(Integer.MAX_VALUE), -2);
        Check.same("end", x.end(Integer.MIN_VALUE), -2);
        Check.same("end", x.end(40), 40);
        Check.same("end", x.end(24), 24);
        Check.same("end", x.end(25), -2);
        Check.same("row", x.row(-1), -2);
        Check.same("row", x.row(8), -2);
        Check.same("row", x.row(3), 24);
        Check.same("size", x.size(3), 24);
        Check.same("end", x.end(1), -2);
        int[] due = {1, 2, 3, 4, 0x85, 0x86, 0x87, 0x88, 255, 255, 255, 255, 0, 0, 0, 0, 0x7f, 0, 0, 1, 0, 0, 0, 1};
        for (int i = 0; i < due.length; i++) {
            Check.same("byte " + i, x.poke(3, i, 0), due[i]);
        }
        Check.same("feed after row", x.feed(9, 9, 9, 9, 9), 20);
        Check.same("an empty tape", x.end(0), 0);
        Check.same("row", x.row(3), 0);
        Check.same("size", x.size(3), 0);
    }

    private static void fullTape() {
        SealedTokens x = new SealedTokens();
        for (int i = 1; i <= 409; i++) {
            Check.same("feed", x.feed(i, i, i, i, i), 20 * i);
        }
        Check.same("feed beyond", x.feed(1, 1, 1, 1, 1), -2);
        Check.same("kept", x.end(8180), 8180);
        Check.same("end", x.end(8172), 8172);
        Check.same("feed to the brim", x.feed(1, 1, 1, 1, 1), 8192);
        Check.same("feed beyond", x.feed(1, 1, 1, 1, 1), -2);
        Check.same("row", x.row(7), 8192);
        Check.same("last", x.poke(7, 8191, 0), 1);
        Check.same("encode", x.encode(7), -3);
    }

    private static void rows() {
        House h = new House().put(0, "abc").put(1, "");
        SealedTokens x = h.x;
        Check.same("encode", x.encode(0), 4);
        Check.same("keep", x.keep(-1), -2);
        Check.same("keep", x.keep(8), -2);
        for (int r = 0; r < 8; r++) {
            Check.same("keep", x.keep(r), 4);
            Check.same("size", x.size(r), 4);
            Check.same("OUT stays", x.size(-1), 4);
        }
        Check.same("poke", x.poke(5, 0, 1), 'Y' ^ 1);
        Check.same("OUT is not the row", x.out(0), 'Y');
        Check.same("nor another", x.poke(4, 0, 0), 'Y');
        for (int r : new int[] {-2, 8, 9, Integer.MIN_VALUE, Integer.MAX_VALUE}) {
            Check.same("size", x.size(r), -2);
        }
        for (int i : new int[] {-1, 4, 5, 8191, 8192, Integer.MIN_VALUE, Integer.MAX_VALUE}) {
            Check.same("out", x.out(i), -1);
        }
        Check.same("out", x.out(3), 'j');
    }

    private static void poke() {
        House h = new House();
        byte[] due = new byte[300];
        Random random = new Random(5);
        random.nextBytes(due);
        h.put(2, due);
        for (int i = 0; i < 300; i++) {
            due[i] ^= i;
            Check.same("poke", h.x.poke(2, i, i & 255), due[i] & 255);
        }
        for (int i = 0; i < 300; i++) {
            Check.same("after", h.x.poke(2, i, 0), due[i] & 255);
        }
        Check.same("poke", h.x.poke(2, 300, 0), -2);
        Check.same("poke", h.x.poke(2, -1, 0), -2);
        Check.same("poke", h.x.poke(2, 0, -1), -2);
        Check.same("poke", h.x.poke(2, 0, 256), -2);
        Check.same("poke", h.x.poke(8, 0, 0), -2);
        Check.same("poke", h.x.poke(-1, 0, 0), -2);
        Check.same("poke", h.x.poke(1, 0, 0), -2);
        Check.same("unchanged", h.x.poke(2, 0, 0), due[0] & 255);
    }
}
