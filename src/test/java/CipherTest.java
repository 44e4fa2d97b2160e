import java.util.Arrays;
import java.util.Random;
import javax.crypto.Cipher;
import javax.crypto.Mac;
import javax.crypto.spec.GCMParameterSpec;
import javax.crypto.spec.IvParameterSpec;
import javax.crypto.spec.SecretKeySpec;

/** Promises 19 to 23. */
public final class CipherTest {
    private static final Random RANDOM = new Random(19);
    private static final int[] KEY = {32, 64, 16, 32};
    private static final int[] FIRST = {16, 16, 12, 12};
    private static final int[] MARK = {16, 32, 16, 16};

    public static void main(String[] args) throws Exception {
        blocks();
        wraps();
        contents();
        badContents();
        wrongFill();
        refusals();
        Check.end();
    }

    private static byte[] bytes(int many) {
        byte[] bytes = new byte[many];
        RANDOM.nextBytes(bytes);
        return bytes;
    }

    static SecretKeySpec aes(byte[] key) {
        return new SecretKeySpec(key, "AES");
    }

    private static void blocks() throws Exception {
        House h = new House();
        for (int turn = 0; turn < 100; turn++) {
            byte[] key = bytes(turn % 2 == 0 ? 16 : 32);
            byte[] block = bytes(16);
            Cipher c = Cipher.getInstance("AES/ECB/NoPadding");
            c.init(Cipher.ENCRYPT_MODE, aes(key));
            h.put(0, key).put(1, block);
            Check.same("block", h.x.block(0, 1, false), 16);
            Check.same("block", h.out(), c.doFinal(block));
            h.x.keep(2);
            Check.same("back", h.x.block(0, 2, true), 16);
            Check.same("back", h.out(), block);
        }
        h.put(0, House.hex("000102030405060708090a0b0c0d0e0f101112131415161718191a1b1c1d1e1f")).put(1, House.hex("00112233445566778899aabbccddeeff"));
        h.x.block(0, 1, false);
        Check.same("FIPS 197", h.out(), House.hex("8ea2b7ca516745bfeafc49904b496089"));
        h.mark();
        for (int many : new int[] {0, 1, 15, 17, 32, 8192}) {
            Check.same("block", h.put(2, bytes(many)).x.block(0, 2, false), House.BAD);
        }
        for (int many : new int[] {0, 8, 15, 17, 24, 31, 33, 64}) {
            Check.same("block", h.put(2, bytes(many)).x.block(2, 1, true), House.BAD);
        }
        Check.same("block", h.x.block(-1, 1, true), House.BAD);
        Check.same("block", h.x.block(0, 8, true), House.BAD);
        h.unmarked("block");
    }

    private static void wraps() throws Exception {
        House h = new House();
        for (int many = 16; many <= 64; many += 8) {
            for (int size = 16; size <= 32; size += 16) {
                byte[] key = bytes(size);
                byte[] plain = bytes(many);
                Cipher c = Cipher.getInstance("AESWrap");
                c.init(Cipher.WRAP_MODE, aes(key));
                byte[] due = c.wrap(aes(plain));
                h.put(0, key).put(1, plain);
                Check.same("wrap", h.x.wrap(0, 1), many + 8);
                Check.same("wrap", h.out(), due);
                h.x.keep(2);
                Check.same("unwrap", h.x.unwrap(0, 2), many);
                Check.same("unwrap", h.out(), plain);
                h.mark();
                for (int i = 0; i < due.length; i += 5) {
                    h.x.poke(2, i, 1 << i % 8);
                    Check.same("unwrap", h.x.unwrap(0, 2), House.NONE);
                    h.x.poke(2, i, 1 << i % 8);
                }
                h.x.poke(0, size - 1, 1);
                Check.same("unwrap", h.x.unwrap(0, 2), House.NONE);
                h.unmarked("unwrap");
            }
        }
        h.put(0, bytes(16)).mark();
        for (int many : new int[] {0, 1, 8, 15, 17, 20, 63, 65, 68, 73, 80, 8192}) {
            h.put(1, bytes(many));
            Check.same("wrap", h.x.wrap(0, 1), House.BAD);
            Check.same("unwrap", h.x.unwrap(0, 1), House.BAD);
        }
        Check.same("unwrap 16", h.put(1, bytes(16)).x.unwrap(0, 1), House.BAD);
        Check.same("wrap 72", h.put(1, bytes(72)).x.wrap(0, 1), House.BAD);
        Check.same("unwrap 72", h.x.unwrap(0, 1), House.NONE);
        h.put(1, bytes(24));
        for (int many : new int[] {0, 15, 24, 33, 64}) {
            h.put(2, bytes(many));
            Check.same("wrap", h.x.wrap(2, 1), House.BAD);
            Check.same("unwrap", h.x.unwrap(2, 1), House.BAD);
        }
        Check.same("wrap", h.x.wrap(8, 1), House.BAD);
        Check.same("wrap", h.x.wrap(0, -1), House.BAD);
        Check.same("unwrap", h.x.unwrap(-1, 1), House.BAD);
        Check.same("unwrap", h.x.unwrap(0, 8), House.BAD);
        h.unmarked("wrap");
    }

    static byte[] seal(int way, byte[] key, byte[] first, byte[] also, byte[] plain) throws Exception {
        if (way >= 2) {
            Cipher c = Cipher.getInstance("AES/GCM/NoPadding");
            c.init(Cipher.ENCRYPT_MODE, aes(key), new GCMParameterSpec(128, first));
            c.updateAAD(also);
            return c.doFinal(plain);
        }
        int half = key.length / 2;
        Cipher c = Cipher.getInstance("AES/CBC/PKCS5Padding");
        c.init(Cipher.ENCRYPT_MODE, aes(Arrays.copyOfRange(key, half, 2 * half)), new IvParameterSpec(first));
        return marked(way, key, first, also, c.doFinal(plain));
    }

    static byte[] marked(int way, byte[] key, byte[] first, byte[] also, byte[] sealed) throws Exception {
        Mac mac = Mac.getInstance(way == 0 ? "HmacSHA256" : "HmacSHA512");
        mac.init(new SecretKeySpec(Arrays.copyOf(key, key.length / 2), "x"));
        byte[] mark = mac.doFinal(House.join(also, first, sealed, DigestTest.word(0), DigestTest.word(8 * also.length)));
        return House.join(sealed, Arrays.copyOf(mark, MARK[way]));
    }

    private static void contents() throws Exception {
        House h = new House();
        int[] sizes = {0, 1, 15, 16, 17, 31, 32, 33, 100, 255, 256, 1000, 8143, 8144, 8159, 8160, 8175, 8176, 8177, 8192};
        for (int way = 0; way < 4; way++) {
            for (int size : sizes) {
                byte[] key = bytes(KEY[way]);
                byte[] first = bytes(FIRST[way]);
                byte[] also = bytes(size == 100 ? 8192 : size == 17 ? 0 : RANDOM.nextInt(50));
                byte[] plain = bytes(size);
                byte[] due = seal(way, key, first, also, plain);
                h.put(0, key).put(1, first).put(2, also).put(3, plain).mark();
                if (due.length > 8192) {
                    Check.same("seal", h.x.seal(way, 0, 1, 2, 3), House.LARGE);
                    h.unmarked("seal");
                    continue;
                }
                Check.same("seal", h.x.seal(way, 0, 1, 2, 3), due.length);
                Check.same("seal by " + way, h.out(), due);
                h.x.keep(4);
                Check.same("open", h.x.open(way, 0, 1, 2, 4), size);
                Check.same("open", h.out(), plain);
            }
        }
    }

    private static void badContents() throws Exception {
        House h = new House();
        for (int way = 0; way < 4; way++) {
            byte[] due = seal(way, new byte[KEY[way]], new byte[FIRST[way]], new byte[3], bytes(20));
            h.put(0, new byte[KEY[way]]).put(1, new byte[FIRST[way]]).put(2, new byte[3]).put(3, due).mark();
            for (int i = 0; i < due.length; i++) {
                h.x.poke(3, i, 1 << i % 8);
                Check.same("open", h.x.open(way, 0, 1, 2, 3), House.NONE);
                h.x.poke(3, i, 1 << i % 8);
            }
            for (int r = 0; r < 3; r++) {
                h.x.poke(r, 1, 2);
                Check.same("open", h.x.open(way, 0, 1, 2, 3), House.NONE);
                h.x.poke(r, 1, 2);
            }
            for (int cut = 0; cut < due.length; cut++) {
                h.put(4, Arrays.copyOf(due, cut));
                Check.same("open", h.x.open(way, 0, 1, 2, 4), House.NONE);
            }
            h.unmarked("open");
            Check.same("open", h.x.open(way, 0, 1, 2, 3), 20);
        }
    }

    /** Marks that are right over content that is not: no blocks, half a block, bad filling. */
    private static void wrongFill() throws Exception {
        House h = new House();
        for (int way = 0; way < 2; way++) {
            byte[] key = bytes(KEY[way]);
            byte[] first = bytes(16);
            byte[] also = bytes(9);
            h.put(0, key).put(1, first).put(2, also).mark();
            for (int size : new int[] {0, 1, 8, 15, 17, 24}) {
                h.put(3, marked(way, key, first, also, bytes(size)));
                Check.same("open", h.x.open(way, 0, 1, 2, 3), House.NONE);
            }
            for (int turn = 0; turn < 1500; turn++) {
                h.put(3, marked(way, key, first, also, bytes(17)));
                Check.same("open of 17 bytes", h.x.open(way, 0, 1, 2, 3), House.NONE);
            }
            for (int fill = 0; fill < 40; fill++) {
                for (int wrong = -1; wrong < 16; wrong++) {
                    byte[] plain = new byte[32];
                    Arrays.fill(plain, (byte) 77);
                    for (int i = 0; i < fill && i < 32; i++) {
                        plain[31 - i] = (byte) fill;
                    }
                    plain[31] = (byte) fill;
                    if (wrong >= 0) {
                        plain[31 - wrong] ^= 32;
                    }
                    Cipher c = Cipher.getInstance("AES/CBC/NoPadding");
                    c.init(Cipher.ENCRYPT_MODE, aes(Arrays.copyOfRange(key, key.length / 2, key.length)), new IvParameterSpec(first));
                    h.put(3, marked(way, key, first, also, c.doFinal(plain)));
                    boolean fits = fill >= 1 && fill <= 16 && (wrong < 0 || wrong >= fill);
                    // a last byte that is changed tells another filling
                    int due = fits ? 32 - fill : wrong == 0 && fill == 33 ? 31 : House.NONE;
                    Check.same("open, filled by " + fill + ", wrong " + wrong, h.x.open(way, 0, 1, 2, 3), due);
                    if (due == House.NONE) {
                        h.unmarked("open");
                    } else {
                        Check.same("open", h.out(), Arrays.copyOf(plain, due));
                        h.mark();
                    }
                }
            }
        }
    }

    private static void refusals() {
        for (int way = 0; way < 4; way++) {
            House h = new House().put(0, new byte[KEY[way]]).put(1, new byte[FIRST[way]]).put(3, new byte[64]).mark();
            for (int r : new int[] {-1, 8, Integer.MIN_VALUE}) {
                Check.same("seal", h.x.seal(way, r, 1, 2, 3), House.BAD);
                Check.same("seal", h.x.seal(way, 0, r, 2, 3), House.BAD);
                Check.same("seal", h.x.seal(way, 0, 1, r, 3), House.BAD);
                Check.same("seal", h.x.seal(way, 0, 1, 2, r), House.BAD);
                Check.same("open", h.x.open(way, r, 1, 2, 3), House.BAD);
                Check.same("open", h.x.open(way, 0, r, 2, 3), House.BAD);
                Check.same("open", h.x.open(way, 0, 1, r, 3), House.BAD);
                Check.same("open", h.x.open(way, 0, 1, 2, r), House.BAD);
            }
            for (int w : new int[] {-1, 4, Integer.MIN_VALUE, Integer.MAX_VALUE}) {
                Check.same("seal", h.x.seal(w, 0, 1, 2, 3), House.BAD);
                Check.same("open", h.x.open(w, 0, 1, 2, 3), House.BAD);
            }
            for (int many : new int[] {0, 12, 15, 16, 24, 31, 32, 33, 63, 64, 65}) {
                h.put(4, new byte[many]);
                if (many != KEY[way]) {
                    Check.same("seal", h.x.seal(way, 4, 1, 2, 3), House.BAD);
                    Check.same("open", h.x.open(way, 4, 1, 2, 3), House.BAD);
                }
                if (many != FIRST[way]) {
                    Check.same("seal", h.x.seal(way, 0, 4, 2, 3), House.BAD);
                    Check.same("open", h.x.open(way, 0, 4, 2, 3), House.BAD);
                }
            }
            h.put(5, new byte[8192]);
            Check.same("BAD before LARGE", h.x.seal(way, 3, 0, 2, 5), House.BAD);
            Check.same("LARGE", h.x.seal(way, 0, 1, 2, 5), House.LARGE);
            h.unmarked("a refusal");
        }
    }
}
