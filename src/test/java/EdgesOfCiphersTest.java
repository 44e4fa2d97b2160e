import java.security.MessageDigest;
import java.util.Arrays;
import javax.crypto.Cipher;
import javax.crypto.spec.IvParameterSpec;

/** Promises 17 to 23: each sentence that names a boundary. */
public final class EdgesOfCiphersTest {
    private static final int[] NO_ROWS = {-1, -2, 8, Integer.MIN_VALUE, Integer.MAX_VALUE};
    private static final int[] NO_BITS = {-256, -1, 0, 1, 255, 257, 384, 511, 513, 1024, Integer.MIN_VALUE, Integer.MAX_VALUE};

    public static void main(String[] args) throws Exception {
        hash();
        code();
        block();
        wrap();
        unwrap();
        unwrapOtherStarts();
        seal();
        sealLarge();
        open();
        openFilled();
        openRefused();
        oneRowForAll();
        Check.end(17, 23);
    }

    private static void hash() throws Exception {
        Check.promise(17, "a row's digest, at the edges of its blocks");
        for (int many : new int[] {0, 1, 54, 55, 56, 57, 63, 64, 65, 110, 111, 112, 113, 119, 120, 127, 128, 129, 8191, 8192}) {
            byte[] bytes = Keys.bytes(many, many);
            House h = new House().put(7, bytes);
            for (int bits = 256; bits <= 512; bits += 256) {
                Check.same("hash of " + many, h.x.hash(bits, 7), bits / 8);
                Check.same("OUT", h.out(), MessageDigest.getInstance("SHA-" + bits).digest(bytes));
            }
        }
        Check.promise(17, "BAD: also bits are not 256 or 512");
        House h = House.lived();
        for (int bits : NO_BITS) {
            Check.refused(h, "hash by " + bits, () -> h.x.hash(bits, 0), House.BAD);
        }
        Check.promise(17, "BAD: no such row");
        for (int r : NO_ROWS) {
            Check.refused(h, "hash of row " + r, () -> h.x.hash(256, r), House.BAD);
        }
    }

    private static void code() throws Exception {
        Check.promise(18, "the code of a row with another one as key, at the edges of the digests' blocks");
        for (int many : new int[] {0, 1, 63, 64, 65, 127, 128, 129, 8192}) {
            byte[] key = Keys.bytes(many, many + 1);
            for (int size : new int[] {0, 1, 64, 128}) {
                byte[] bytes = Keys.bytes(size, size + 2);
                House h = new House().put(0, key).put(7, bytes);
                for (int bits = 256; bits <= 512; bits += 256) {
                    Check.same("code by a key of " + many, h.x.code(bits, 0, 7), bits / 8);
                    Check.same("OUT", h.out(), Maker.code(bits / 512, many == 0 ? new byte[1] : key, bytes));
                }
            }
        }
        Check.promise(18, "BAD likewise");
        House h = House.lived();
        for (int bits : NO_BITS) {
            Check.refused(h, "code by " + bits, () -> h.x.code(bits, 0, 1), House.BAD);
        }
        for (int r : NO_ROWS) {
            Check.refused(h, "code with key " + r, () -> h.x.code(256, r, 1), House.BAD);
            Check.refused(h, "code of row " + r, () -> h.x.code(512, 0, r), House.BAD);
        }
    }

    private static void block() throws Exception {
        Check.promise(19, "one block through the cipher, or back");
        for (int many : new int[] {16, 32}) {
            byte[] key = Keys.bytes(many, 19);
            byte[] plain = Keys.bytes(16, 20);
            Cipher c = Cipher.getInstance("AES/ECB/NoPadding");
            c.init(Cipher.ENCRYPT_MODE, CipherTest.aes(key));
            House h = new House().put(0, key).put(7, plain);
            Check.same("block", h.x.block(0, 7, false), 16);
            Check.same("through", h.out(), c.doFinal(plain));
            h.x.keep(1);
            Check.same("block", h.x.block(0, 1, true), 16);
            Check.same("back", h.out(), plain);
        }
        for (boolean back : new boolean[] {false, true}) {
            House h = House.lived().put(1, new byte[16]).put(2, new byte[32]);
            Check.promise(19, "BAD: also another number of bytes");
            for (int many : new int[] {0, 1, 15, 17, 31, 32, 48, 8192}) {
                h.put(3, new byte[many]);
                Check.refused(h, "a block of " + many, () -> h.x.block(1, 3, back), House.BAD);
                Check.refused(h, "a block of " + many, () -> h.x.block(2, 3, back), House.BAD);
            }
            Check.promise(19, "BAD: key not 16, 32");
            for (int many : new int[] {0, 1, 15, 17, 24, 31, 33, 64, 8192}) {
                h.put(3, new byte[many]);
                Check.refused(h, "a key of " + many, () -> h.x.block(3, 1, back), House.BAD);
            }
            Check.promise(19, "BAD: no such row");
            for (int r : NO_ROWS) {
                Check.refused(h, "key " + r, () -> h.x.block(r, 1, back), House.BAD);
                Check.refused(h, "row " + r, () -> h.x.block(1, r, back), House.BAD);
            }
        }
    }

    private static void wrap() throws Exception {
        Check.promise(20, "16 .. 64, multiples of 8; key 16, 32");
        for (int many = 0; many <= 80; many++) {
            for (int size : new int[] {16, 32}) {
                byte[] key = Keys.bytes(size, many);
                byte[] plain = Keys.bytes(many, size);
                House h = House.lived().put(1, key).put(2, plain);
                if (many >= 16 && many <= 64 && many % 8 == 0) {
                    Check.same("wrap of " + many, h.x.wrap(1, 2), many + 8);
                    Check.same("OUT", h.out(), Maker.wrap(key, plain));
                } else {
                    Check.refused(h, "wrap of " + many, () -> h.x.wrap(1, 2), House.BAD);
                }
            }
        }
        House h = House.lived().put(1, new byte[16]).put(2, new byte[8192]);
        Check.refused(h, "wrap of a full row", () -> h.x.wrap(1, 2), House.BAD);
        Check.promise(20, "BAD: key not 16, 32");
        for (int many : new int[] {0, 8, 15, 17, 24, 31, 33, 64, 8192}) {
            h.put(3, new byte[many]);
            Check.refused(h, "a key of " + many, () -> h.x.wrap(3, 1), House.BAD);
        }
        Check.promise(20, "BAD: no such row");
        for (int r : NO_ROWS) {
            Check.refused(h, "key " + r, () -> h.x.wrap(r, 1), House.BAD);
            Check.refused(h, "row " + r, () -> h.x.wrap(1, r), House.BAD);
        }
    }

    private static void unwrap() throws Exception {
        for (int size : new int[] {16, 32}) {
            byte[] key = Keys.bytes(size, 21);
            for (int many = 16; many <= 64; many += 8) {
                Check.promise(21, "what is wrapped in a row comes to OUT");
                byte[] plain = Keys.bytes(many, many);
                House h = House.lived().put(1, key).put(2, Maker.wrap(key, plain));
                Check.same("unwrap of " + (many + 8), h.x.unwrap(1, 2), many);
                Check.same("OUT", h.out(), plain);
                Check.promise(21, "NONE: it does not fit the key");
                h.mark();
                for (int i : new int[] {0, 7, 8, many + 7}) {
                    h.x.poke(2, i, 128);
                    Check.refused(h, "byte " + i + " changed", () -> h.x.unwrap(1, 2), House.NONE);
                    h.x.poke(2, i, 128);
                }
                h.x.poke(1, size - 1, 1);
                Check.refused(h, "another key", () -> h.x.unwrap(1, 2), House.NONE);
            }
        }
        Check.promise(21, "BAD: not 24 .. 72, no multiple of 8, although it does not fit the key either");
        for (int many = 0; many <= 88; many++) {
            boolean may = many >= 24 && many <= 72 && many % 8 == 0;
            House h = House.lived().put(1, new byte[16]).put(2, new byte[many]);
            Check.refused(h, "unwrap of " + many, () -> h.x.unwrap(1, 2), may ? House.NONE : House.BAD);
        }
        House h = House.lived().put(1, new byte[16]).put(2, new byte[24]);
        Check.promise(21, "BAD: key not 16, 32");
        for (int many : new int[] {0, 8, 15, 17, 24, 31, 33, 64, 8192}) {
            h.put(3, new byte[many]);
            Check.refused(h, "a key of " + many, () -> h.x.unwrap(3, 2), House.BAD);
        }
        Check.refused(h.put(3, new byte[8192]), "unwrap of a full row", () -> h.x.unwrap(1, 3), House.BAD);
        Check.promise(21, "BAD: no such row");
        for (int r : NO_ROWS) {
            Check.refused(h, "key " + r, () -> h.x.unwrap(r, 2), House.BAD);
            Check.refused(h, "row " + r, () -> h.x.unwrap(1, r), House.BAD);
        }
    }

    /** RFC 3394 with any start in place of a6a6a6a6a6a6a6a6. */
    private static byte[] wrapped(byte[] key, byte[] start, byte[] plain) throws Exception {
        Cipher c = Cipher.getInstance("AES/ECB/NoPadding");
        c.init(Cipher.ENCRYPT_MODE, CipherTest.aes(key));
        byte[] a = start.clone();
        byte[] all = plain.clone();
        int parts = plain.length / 8;
        for (int turn = 0; turn < 6 * parts; turn++) {
            int at = turn % parts * 8;
            byte[] b = c.doFinal(House.join(a, Arrays.copyOfRange(all, at, at + 8)));
            a = Arrays.copyOf(b, 8);
            a[7] ^= turn + 1;
            System.arraycopy(b, 8, all, at, 8);
        }
        return House.join(a, all);
    }

    private static void unwrapOtherStarts() throws Exception {
        byte[] key = Keys.bytes(16, 22);
        for (int many = 16; many <= 64; many += 8) {
            byte[] plain = Keys.bytes(many, many);
            byte[] start = new byte[8];
            Arrays.fill(start, (byte) 0xa6);
            Check.promise(21, "it fits the key by all 8 bytes that RFC 3394 begins with");
            House h = House.lived().put(1, key).put(2, wrapped(key, start, plain));
            Check.same("unwrap", h.x.unwrap(1, 2), many);
            h.mark();
            Check.promise(21, "NONE: one of these is another");
            for (int i = 0; i < 8; i++) {
                byte[] other = start.clone();
                other[i] ^= 1;
                h.put(2, wrapped(key, other, plain));
                Check.refused(h, "byte " + i + " of " + many, () -> h.x.unwrap(1, 2), House.NONE);
            }
        }
    }

    /** Key, beginning and what else the mark is of in rows 1, 2, 3. */
    private static House ready(int way, byte[] also) {
        return House.lived().put(1, Keys.bytes(Maker.KEY[way], way)).put(2, Keys.bytes(Maker.FIRST[way], way + 9)).put(3, also);
    }

    private static byte[] sealed(int way, byte[] also, byte[] plain) throws Exception {
        return CipherTest.seal(way, Keys.bytes(Maker.KEY[way], way), Keys.bytes(Maker.FIRST[way], way + 9), also, plain);
    }

    private static void seal() throws Exception {
        Check.promise(22, "content of no bytes, of whole blocks and next to them, and nothing else that the mark is of");
        for (int way = 0; way < 4; way++) {
            for (int many : new int[] {0, 1, 15, 16, 17, 31, 32, 33}) {
                for (int more : new int[] {0, 1, 15, 16, 17, 8192}) {
                    byte[] plain = Keys.bytes(many, 4);
                    byte[] also = Keys.bytes(more, 5);
                    byte[] due = sealed(way, also, plain);
                    House h = ready(way, also).put(4, plain);
                    Check.same("seal by " + way, h.x.seal(way, 1, 2, 3, 4), due.length);
                    Check.same("OUT", h.out(), due);
                }
            }
        }
        Check.promise(22, "BAD: way is not 0 .. 3");
        House h = ready(3, new byte[0]);
        for (int way : new int[] {-1, 4, 5, Integer.MIN_VALUE, Integer.MAX_VALUE}) {
            Check.refused(h, "way " + way, () -> h.x.seal(way, 1, 2, 3, 4), House.BAD);
        }
        for (int way = 0; way < 4; way++) {
            badRows(way);
        }
    }

    private static void badRows(int way) {
        House h = ready(way, new byte[0]).put(4, new byte[48]);
        Check.promise(22, "BAD: a key of 32, 64, 16, 32 bytes is wanted");
        for (int many : new int[] {0, 15, 16, 17, 24, 31, 32, 33, 48, 63, 64, 65}) {
            h.put(5, new byte[many]);
            if (many != Maker.KEY[way]) {
                Check.refused(h, "a key of " + many + " for " + way, () -> h.x.seal(way, 5, 2, 3, 4), House.BAD);
                Check.refused(h, "a key of " + many + " to open " + way, () -> h.x.open(way, 5, 2, 3, 4), House.BAD);
            }
        }
        Check.promise(22, "BAD: a beginning of 16, 16, 12, 12 bytes is wanted");
        for (int many : new int[] {0, 8, 11, 12, 13, 15, 16, 17, 32}) {
            h.put(5, new byte[many]);
            if (many != Maker.FIRST[way]) {
                Check.refused(h, "a beginning of " + many + " for " + way, () -> h.x.seal(way, 1, 5, 3, 4), House.BAD);
                Check.refused(h, "a beginning of " + many + " to open " + way, () -> h.x.open(way, 1, 5, 3, 4), House.BAD);
            }
        }
        Check.promise(22, "BAD: no such row");
        for (int r : NO_ROWS) {
            Check.refused(h, "key " + r, () -> h.x.seal(way, r, 2, 3, 4), House.BAD);
            Check.refused(h, "beginning " + r, () -> h.x.seal(way, 1, r, 3, 4), House.BAD);
            Check.refused(h, "also " + r, () -> h.x.seal(way, 1, 2, r, 4), House.BAD);
            Check.refused(h, "row " + r, () -> h.x.seal(way, 1, 2, 3, r), House.BAD);
        }
    }

    private static void sealLarge() throws Exception {
        int[] most = {8175, 8159, 8176, 8176};
        for (int way = 0; way < 4; way++) {
            Check.promise(22, "OUT has 8192 bytes");
            byte[] plain = Keys.bytes(most[way], 6);
            int sealedBy = way;
            House h = ready(way, new byte[3]).put(4, plain);
            Check.same("seal of " + most[way] + " by " + way, h.x.seal(way, 1, 2, 3, 4), 8192);
            Check.same("OUT", h.out(), sealed(way, new byte[3], plain));
            h.x.keep(5);
            Check.same("open", h.x.open(way, 1, 2, 3, 5), most[way]);
            Check.same("OUT", h.out(), plain);
            Check.promise(22, "LARGE: OUT would have more than 8192 bytes");
            for (int many : new int[] {most[way] + 1, most[way] + 16, 8192}) {
                h.mark().put(4, new byte[many]);
                Check.refused(h, "seal of " + many, () -> h.x.seal(sealedBy, 1, 2, 3, 4), House.LARGE);
            }
            Check.promise(22, "BAD before LARGE");
            h.put(6, new byte[17]);
            Check.refused(h, "a wrong key", () -> h.x.seal(sealedBy, 6, 2, 3, 4), House.BAD);
            Check.refused(h, "a wrong beginning", () -> h.x.seal(sealedBy, 1, 6, 3, 4), House.BAD);
            Check.refused(h, "no such row", () -> h.x.seal(sealedBy, 1, 2, 8, 4), House.BAD);
        }
    }

    private static void unopened(int way, String what, byte[] sealed) {
        House h = ready(way, new byte[5]).put(4, sealed);
        Check.refused(h, what + " by " + way, () -> h.x.open(way, 1, 2, 3, 4), House.NONE);
    }

    private static void open() throws Exception {
        for (int way = 0; way < 4; way++) {
            byte[] also = new byte[5];
            byte[] none = sealed(way, also, new byte[0]);
            byte[] some = sealed(way, also, Keys.bytes(20, 7));
            Check.promise(23, "content of no bytes");
            House h = ready(way, also).put(4, none);
            Check.same("open", h.x.open(way, 1, 2, 3, 4), 0);
            Check.same("OUT", h.x.size(-1), 0);
            Check.promise(23, "NONE: it has fewer bytes than a mark");
            for (int many : new int[] {0, 1, Maker.MARK[way] - 1}) {
                unopened(way, many + " bytes", Arrays.copyOfRange(none, none.length - many, none.length));
            }
            Check.promise(23, "NONE: its mark is another one");
            for (int i = 0; i < some.length; i++) {
                byte[] changed = some.clone();
                changed[i] ^= i % 2 == 0 ? 1 : 128;
                unopened(way, "byte " + i + " changed", changed);
            }
            unopened(way, "a byte less", Arrays.copyOf(some, some.length - 1));
            unopened(way, "a byte more", Arrays.copyOf(some, some.length + 1));
            unopened(way, "a mark of 0s", House.join(Arrays.copyOf(some, some.length - Maker.MARK[way]), new byte[Maker.MARK[way]]));
            Check.promise(23, "NONE: another key, beginning, or what else the mark is of");
            House other = ready(way, also).put(4, some);
            int opened = way;
            for (int r = 1; r <= 3; r++) {
                other.x.poke(r, 0, 1);
                Check.refused(other, "row " + r + " changed", () -> other.x.open(opened, 1, 2, 3, 4), House.NONE);
                other.x.poke(r, 0, 1);
            }
            Check.same("as it was", other.x.open(way, 1, 2, 3, 4), 20);
        }
    }

    /** Content of ways 0 and 1 that was never filled, with the mark that is right for it. */
    private static byte[] marked(int way, byte[] sealed) throws Exception {
        return CipherTest.marked(way, Keys.bytes(Maker.KEY[way], way), Keys.bytes(16, way + 9), new byte[5], sealed);
    }

    private static byte[] chained(int way, byte[] plain) throws Exception {
        byte[] key = Keys.bytes(Maker.KEY[way], way);
        Cipher c = Cipher.getInstance("AES/CBC/NoPadding");
        c.init(Cipher.ENCRYPT_MODE, CipherTest.aes(Arrays.copyOfRange(key, key.length / 2, key.length)), new IvParameterSpec(Keys.bytes(16, way + 9)));
        return marked(way, c.doFinal(plain));
    }

    private static byte[] filled(int many, int last, int by) {
        byte[] plain = new byte[many];
        Arrays.fill(plain, (byte) 99);
        Arrays.fill(plain, many - last, many, (byte) by);
        return plain;
    }

    private static void openFilled() throws Exception {
        for (int way = 0; way < 2; way++) {
            Check.promise(23, "NONE (ways 0, 1): it has none but the mark");
            unopened(way, "a right mark of nothing", marked(way, new byte[0]));
            Check.promise(23, "NONE (ways 0, 1): it is no multiple of 16 without the mark");
            for (int many : new int[] {1, 15, 17, 31, 33}) {
                unopened(way, "a right mark of " + many, marked(way, Keys.bytes(many, many)));
            }
            Check.promise(23, "NONE (ways 0, 1): what fills it is wrong");
            for (int by : new int[] {0, 17, 18, 32, 255}) {
                unopened(way, "filled by " + by, chained(way, filled(32, 32, by)));
            }
            for (int by = 2; by <= 16; by++) {
                unopened(way, "too few of " + by, chained(way, filled(32, by - 1, by)));
            }
            Check.promise(23, "ways 0, 1: what fills it is right");
            for (int by = 1; by <= 16; by++) {
                House h = ready(way, new byte[5]).put(4, chained(way, filled(32, by, by)));
                Check.same("filled by " + by, h.x.open(way, 1, 2, 3, 4), 32 - by);
                h.put(4, chained(way, filled(16, by, by)));
                Check.same("one block, filled by " + by, h.x.open(way, 1, 2, 3, 4), 16 - by);
            }
        }
        for (int way = 2; way < 4; way++) {
            Check.promise(23, "ways 2, 3: any number of bytes");
            for (int many : new int[] {1, 15, 16, 17}) {
                byte[] plain = Keys.bytes(many, many);
                House h = ready(way, new byte[5]).put(4, sealed(way, new byte[5], plain));
                Check.same("open of " + many, h.x.open(way, 1, 2, 3, 4), many);
                Check.same("OUT", h.out(), plain);
            }
        }
    }

    private static void oneRowForAll() throws Exception {
        for (int many : new int[] {16, 32}) {
            byte[] bytes = Keys.bytes(many, 40);
            House h = new House().put(1, bytes).put(2, new byte[12]);
            Check.promise(18, "one row as key and as what the code is of");
            Check.same("code", h.x.code(512, 1, 1), 64);
            Check.same("OUT", h.out(), Maker.code(1, bytes, bytes));
            Check.promise(20, "one row as key and as what is wrapped");
            Check.same("wrap", h.x.wrap(1, 1), many + 8);
            Check.same("OUT", h.out(), Maker.wrap(bytes, bytes));
            Check.promise(22, "one row as key, as content, and as what else the mark is of");
            Check.same("seal", h.x.seal(many == 16 ? 2 : 3, 1, 2, 1, 1), many + 16);
            Check.same("OUT", h.out(), CipherTest.seal(2, bytes, new byte[12], bytes, bytes));
        }
    }

    private static void openRefused() {
        Check.promise(23, "BAD: way is not 0 .. 3");
        House h = ready(2, new byte[0]);
        for (int way : new int[] {-1, 4, 5, Integer.MIN_VALUE, Integer.MAX_VALUE}) {
            Check.refused(h, "way " + way, () -> h.x.open(way, 1, 2, 3, 4), House.BAD);
        }
        Check.promise(23, "BAD before NONE, of content without bytes");
        for (int way = 0; way < 4; way++) {
            int opened = way;
            House wrong = ready(way, new byte[0]).put(5, new byte[17]);
            Check.refused(wrong, "a wrong key", () -> wrong.x.open(opened, 5, 2, 3, 4), House.BAD);
            Check.refused(wrong, "a wrong beginning", () -> wrong.x.open(opened, 1, 5, 3, 4), House.BAD);
            Check.refused(wrong, "content of no bytes", () -> wrong.x.open(opened, 1, 2, 3, 4), House.NONE);
            for (int r : NO_ROWS) {
                Check.refused(wrong, "key " + r, () -> wrong.x.open(opened, r, 2, 3, 4), House.BAD);
                Check.refused(wrong, "beginning " + r, () -> wrong.x.open(opened, 1, r, 3, 4), House.BAD);
                Check.refused(wrong, "also " + r, () -> wrong.x.open(opened, 1, 2, r, 4), House.BAD);
                Check.refused(wrong, "row " + r, () -> wrong.x.open(opened, 1, 2, 3, r), House.BAD);
            }
        }
    }
}
