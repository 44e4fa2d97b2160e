import java.security.MessageDigest;
import java.util.Arrays;
import java.util.Random;
import javax.crypto.Mac;
import javax.crypto.spec.SecretKeySpec;

/** Promises 17, 18 and 26. */
public final class DigestTest {
    private static final Random RANDOM = new Random(17);

    public static void main(String[] args) throws Exception {
        hashes();
        codes();
        derived();
        refusals();
        Check.end();
    }

    private static byte[] bytes(int many) {
        byte[] bytes = new byte[many];
        RANDOM.nextBytes(bytes);
        return bytes;
    }

    private static void hashes() throws Exception {
        House h = new House();
        int[] large = {1000, 4095, 4096, 8100, 8191, 8192};
        for (int i = 0; i < 300 + large.length; i++) {
            byte[] bytes = bytes(i < 300 ? i : large[i - 300]);
            h.put(0, bytes);
            for (int bits = 256; bits <= 512; bits += 256) {
                Check.same("hash", h.x.hash(bits, 0), bits / 8);
                Check.same("hash of " + bytes.length, h.out(), MessageDigest.getInstance("SHA-" + bits).digest(bytes));
            }
        }
        h.put(0, "abc");
        h.x.hash(256, 0);
        Check.same("abc", h.out(), House.hex("ba7816bf8f01cfea414140de5dae2223b00361a396177a9cb410ff61f20015ad"));
    }

    private static byte[] mac(int bits, byte[] key, byte[] bytes) throws Exception {
        Mac mac = Mac.getInstance("HmacSHA" + bits);
        mac.init(new SecretKeySpec(key.length == 0 ? new byte[1] : key, "x"));
        return mac.doFinal(bytes);
    }

    private static void codes() throws Exception {
        House h = new House();
        int[] keys = {0, 1, 20, 32, 63, 64, 65, 100, 127, 128, 129, 130, 200, 1000, 8192};
        int[] sizes = {0, 1, 47, 55, 56, 63, 64, 65, 111, 112, 119, 120, 127, 128, 500, 8192};
        for (int k : keys) {
            for (int s : sizes) {
                byte[] key = bytes(k);
                byte[] bytes = bytes(s);
                h.put(0, key).put(1, bytes);
                for (int bits = 256; bits <= 512; bits += 256) {
                    Check.same("code", h.x.code(bits, 0, 1), bits / 8);
                    Check.same("code", h.out(), mac(bits, key, bytes));
                }
            }
        }
        h.put(0, "key");
        h.x.code(256, 0, 0);
        Check.same("a row as its own key", h.out(), mac(256, House.bytes("key"), House.bytes("key")));
    }

    static byte[] derive(byte[] z, byte[] name, byte[] u, byte[] v, int many) throws Exception {
        byte[] all = new byte[0];
        for (int i = 1; all.length < many; i++) {
            byte[] part = House.join(word(i), z, word(name.length), name, word(u.length), u, word(v.length), v, word(8 * many));
            all = House.join(all, MessageDigest.getInstance("SHA-256").digest(part));
        }
        return Arrays.copyOf(all, many);
    }

    static byte[] word(int x) {
        return new byte[] {(byte) (x >>> 24), (byte) (x >>> 16), (byte) (x >>> 8), (byte) x};
    }

    private static void derived() throws Exception {
        House h = new House();
        for (int turn = 0; turn < 60; turn++) {
            byte[][] p = {bytes(RANDOM.nextInt(100)), bytes(RANDOM.nextInt(40)), bytes(RANDOM.nextInt(400)), bytes(turn == 7 ? 8192 : RANDOM.nextInt(40))};
            for (int i = 0; i < 4; i++) {
                h.put(i, p[i]);
            }
            for (int many = 16; many <= 64; many *= 2) {
                Check.same("derive", h.x.derive(0, 1, 2, 3, many), many);
                Check.same("derive", h.out(), derive(p[0], p[1], p[2], p[3], many));
            }
        }
        // RFC 7518, appendix C
        byte[] z = new byte[] {(byte) 158, 86, (byte) 217, 29, (byte) 129, 113, 53, (byte) 211, 114, (byte) 131, 66, (byte) 131, (byte) 191, (byte) 132, 38, (byte) 156,
            (byte) 251, 49, 110, (byte) 163, (byte) 218, (byte) 128, 106, 72, (byte) 246, (byte) 218, (byte) 167, 121, (byte) 140, (byte) 254, (byte) 144, (byte) 196};
        h.put(0, z).put(1, "A128GCM").put(2, "Alice").put(3, "Bob");
        h.x.derive(0, 1, 2, 3, 16);
        Check.that("RFC 7518", House.letters(h.out()).equals("VqqN6vgjbSBcIijNcacQGg"));
    }

    private static void refusals() {
        House h = new House().mark();
        for (int bits : new int[] {0, 1, 255, 257, 384, 513, -256, Integer.MIN_VALUE}) {
            Check.same("hash", h.x.hash(bits, 0), House.BAD);
            Check.same("code", h.x.code(bits, 0, 0), House.BAD);
        }
        for (int r : new int[] {-1, 8, 100, Integer.MIN_VALUE}) {
            Check.same("hash", h.x.hash(256, r), House.BAD);
            Check.same("code", h.x.code(512, r, 0), House.BAD);
            Check.same("code", h.x.code(512, 0, r), House.BAD);
            Check.same("derive", h.x.derive(r, 0, 0, 0, 16), House.BAD);
            Check.same("derive", h.x.derive(0, r, 0, 0, 16), House.BAD);
            Check.same("derive", h.x.derive(0, 0, r, 0, 16), House.BAD);
            Check.same("derive", h.x.derive(0, 0, 0, r, 16), House.BAD);
        }
        for (int many : new int[] {-16, 0, 1, 15, 17, 24, 31, 48, 63, 65, 128, Integer.MAX_VALUE}) {
            Check.same("derive", h.x.derive(0, 0, 0, 0, many), House.BAD);
        }
        h.unmarked("a refusal");
    }
}
