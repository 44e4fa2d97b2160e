import java.math.BigInteger;
import java.util.ArrayList;
import java.util.Arrays;
import java.util.List;

/** Promises 33 and 34. */
public final class SealedTest {
    static final BigInteger D = new BigInteger("7ec2e7a1b2c3d4e5f60718293a4b5c6d7e8f90a1b2c3d4e5f60718293a4b5c6d", 16);
    static final BigInteger FRESH = new BigInteger("0034567890abcdef1234567890abcdef1234567890abcdef1234567890abcdef", 16);
    static final BigInteger[] FRESH_POINT = NumberTest.times(FRESH, NumberTest.G);
    private static final BigInteger[] POINT = NumberTest.times(D, NumberTest.G);
    static final Keys RSA = Keys.rsa(1024, 65537, 33);
    private static final byte[] PAYLOAD = House.bytes("a payload, not so short");
    private static final byte[] U = House.bytes("Alice");
    private static final byte[] V = House.bytes("Bob\0");

    public static void main(String[] args) throws Exception {
        examples();
        allWays();
        parties();
        whoMay();
        randoms();
        orderOfRefusals();
        large();
        forms();
        headsThatCome();
        wrongs();
        oaepEdges();
        whichKey();
        everyByte();
        Check.end();
    }

    /** A key's text for alg and way, of right size. */
    static String text(int alg, int way, String more) {
        switch (alg) {
            case 0: return Keys.oct(Keys.bytes(Maker.KEY[way], 50 + way), more);
            case 1: return Keys.oct(Keys.bytes(16, 51), more);
            case 2: return Keys.oct(Keys.bytes(32, 52), more);
            case 3: return RSA.text(true, more);
            default: return Keys.ec(D, true, more);
        }
    }

    static byte[] random(int alg, int way) {
        byte[] fresh = alg >= 4 ? NumberTest.fixed(FRESH, 32) : new byte[0];
        int more = (alg == 0 || alg == 4 ? 0 : Maker.KEY[way]) + (alg == 3 ? 32 : 0) + Maker.FIRST[way];
        return House.join(fresh, Keys.bytes(more, 7));
    }

    static String head(int alg, int way, String kid, byte[] u, byte[] v) {
        String head = "{\"alg\":\"" + Maker.SEALED[alg] + "\",\"enc\":\"" + Maker.WAYS[way] + "\"" + kid;
        if (alg >= 4) {
            BigInteger[] p = FRESH_POINT;
            head += ",\"epk\":{\"kty\":\"EC\",\"crv\":\"P-256\",\"x\":\"" + House.letters(NumberTest.fixed(p[0], 32)) + "\",\"y\":\"" + House.letters(NumberTest.fixed(p[1], 32)) + "\"}";
            head += u == null ? "" : ",\"apu\":\"" + House.letters(u) + "\"";
            head += v == null ? "" : ",\"apv\":\"" + House.letters(v) + "\"";
        }
        return head + "}";
    }

    /** The token that is due, with any head. */
    static String token(int alg, int way, String head, byte[] u, byte[] v, byte[] payload) throws Exception {
        byte[] random = random(alg, way);
        int at = alg >= 4 ? 32 : 0;
        byte[] key = Arrays.copyOfRange(random, at, at + Maker.KEY[way]);
        byte[] first = Arrays.copyOfRange(random, random.length - Maker.FIRST[way], random.length);
        byte[] sealedKey = {};
        byte[] partyU = u == null ? new byte[0] : u;
        byte[] partyV = v == null ? new byte[0] : v;
        byte[] z = Maker.shared(FRESH, POINT);
        switch (alg) {
            case 0: key = Keys.bytes(Maker.KEY[way], 50 + way); break;
            case 1: sealedKey = Maker.wrap(Keys.bytes(16, 51), key); break;
            case 2: sealedKey = Maker.wrap(Keys.bytes(32, 52), key); break;
            case 3: sealedKey = Maker.oaep(RSA, key, Arrays.copyOfRange(random, key.length, key.length + 32)); break;
            case 4: key = DigestTest.derive(z, House.bytes(Maker.WAYS[way]), partyU, partyV, Maker.KEY[way]); break;
            default: sealedKey = Maker.wrap(DigestTest.derive(z, House.bytes(Maker.SEALED[alg]), partyU, partyV, 16), key); break;
        }
        return Maker.token(head, sealedKey, first, way, key, payload);
    }

    private static void examples() {
        House h = new House().put(0, "{\"kty\":\"oct\",\"k\":\"GawgguFyGrWKav7AX4VKUg\"}");
        Check.same("key", h.x.key(0), 0);
        h.put(1, "eyJhbGciOiJBMTI4S1ciLCJlbmMiOiJBMTI4Q0JDLUhTMjU2In0.6KB707dM9YTIgHtLvtgWQ8mKwboJW3of9locizkDTHzBC2IlrT1oOQ.AxY8DCtDaGlsbGljb3RoZQ.KDlTtXchhZTGufMYmOYGS4HffxPSUrfmqCHXaI9wOGY.U0m_YmjN04DJvceFICbCVQ");
        Check.same("RFC 7516, A.3", h.x.decrypt(1), 0);
        Check.that("RFC 7516, A.3", h.outText().equals("Live long and prosper."));
    }

    /** With this key, made and opened. */
    private static void sealed(int alg, int way, String kid, String kidWritten, byte[] payload) throws Exception {
        House h = new House().put(0, text(alg, way, kid)).put(1, payload).put(2, random(alg, way)).put(3, U).put(4, V);
        Check.same("key", h.x.key(0), 0);
        String due = token(alg, way, head(alg, way, kidWritten, U, V), U, V, payload);
        Check.same("encrypt", h.x.encrypt(0, alg, way, 1, 2, alg < 4 ? 77 : 3, alg < 4 ? -5 : 4), due.length());
        Check.that("encrypt by " + alg + ", " + way + ": " + h.outText() + ", due is " + due, h.outText().equals(due));
        h.x.keep(5);
        Check.same("decrypt by " + alg + ", " + way, h.x.decrypt(5), 0);
        Check.same("payload", h.out(), payload);
    }

    static boolean fits(int alg, int way) {
        // 66 and 64 bytes are more than n may have
        return alg != 3 || way != 1;
    }

    private static void allWays() throws Exception {
        for (int alg = 0; alg < 6; alg++) {
            for (int way = 0; way < 4; way++) {
                if (fits(alg, way)) {
                    sealed(alg, way, "", "", PAYLOAD);
                    sealed(alg, way, ",\"kid\":\"\\u00e9\\u0022\\u0001/\"", ",\"kid\":\"\u00e9\\\"\\u0001/\"", new byte[0]);
                    sealed(alg, way, ",\"kid\":\"\",\"use\":\"enc\",\"alg\":\"" + Maker.SEALED[alg] + "\"", ",\"kid\":\"\"", Keys.bytes(32, 3));
                    sealed(alg, way, "", "", Keys.bytes(1500 + way, 3));
                }
            }
        }
    }

    private static void parties() throws Exception {
        byte[] none = {};
        byte[][] us = {null, none, U, Keys.bytes(300, 1)};
        for (int alg = 4; alg < 6; alg++) {
            for (byte[] u : us) {
                for (byte[] v : us) {
                    House h = new House().put(0, text(alg, 2, "")).put(1, PAYLOAD).put(2, random(alg, 2)).put(3, u == null ? none : u).put(4, v == null ? none : v);
                    h.x.key(0);
                    String due = token(alg, 2, head(alg, 2, "", u, v), u, v, PAYLOAD);
                    Check.same("encrypt", h.x.encrypt(0, alg, 2, 1, 2, u == null ? -1 : 3, v == null ? -1 : 4), due.length());
                    Check.that("encrypt " + h.outText() + ", due is " + due, h.outText().equals(due));
                    h.x.keep(5);
                    Check.same("decrypt", h.x.decrypt(5), 0);
                }
            }
        }
    }

    private static void may(String text, int alg, int way, boolean seal, boolean open) {
        House h = new House().put(0, text).put(1, "p").put(2, House.join(new byte[] {1}, new byte[150])).mark();
        Check.same("key", h.x.key(0), 0);
        int answer = h.x.encrypt(0, alg, way, 1, 2, -1, -1);
        Check.that("encrypt by " + alg + ", " + way + " with " + text + " answered " + answer, seal ? answer > 0 : answer == House.KEY);
        h.put(5, House.letters(House.bytes(head(alg, way, "", null, null))) + "....");
        Check.same("decrypt by " + alg + ", " + way + " with " + text, h.x.decrypt(5), open ? House.WRONG : House.KEY);
    }

    private static void whoMay() {
        for (int alg = 0; alg < 6; alg++) {
            for (int way = 0; way < 4; way++) {
                for (String use : new String[] {"sig", "", "ENC", "x"}) {
                    may(text(alg, way, ",\"use\":\"" + use + "\""), alg, way, false, false);
                }
                for (int other = 0; other < 6; other++) {
                    boolean fits = fits(alg, way) && other == alg;
                    may(text(alg, way, ",\"alg\":\"" + Maker.SEALED[other] + "\""), alg, way, fits, fits);
                }
                may(text(alg, way, ",\"alg\":\"" + Maker.WAYS[way] + "\""), alg, way, false, false);
                may(text(alg, way, ",\"alg\":\"HS256\""), alg, way, false, false);
                for (int many : new int[] {1, 15, 16, 17, 31, 32, 33, 63, 64, 65, 128}) {
                    boolean fits = alg == 0 ? many == Maker.KEY[way] : alg == 1 ? many == 16 : alg == 2 && many == 32;
                    may(Keys.oct(new byte[many], ""), alg, way, fits, fits);
                }
            }
        }
        for (int way = 0; way < 4; way++) {
            may(Keys.ec(D, false, ""), 4, way, true, false);
            may(Keys.ec(D, false, ""), 5, way, true, false);
            may(Keys.ec(D, true, ""), 3, way, false, false);
            for (int bits : new int[] {512, 648, 649, 656, 657, 776, 777, 784, 785, 1024}) {
                Keys k = Keys.rsa(bits, 65537, bits);
                boolean fits = k.many() >= 66 + Maker.KEY[way];
                may(k.text(true, ""), 3, way, fits, fits);
                if (bits >= 777) {
                    may(k.text(false, ""), 3, way, fits, false);
                    may(k.text(true, ""), 4, way, false, false);
                    may(k.text(true, ""), 0, way, false, false);
                }
            }
        }
    }

    private static void randoms() {
        for (int alg = 0; alg < 6; alg++) {
            for (int way = 0; way < 4; way++) {
                if (!fits(alg, way)) {
                    continue;
                }
                byte[] random = random(alg, way);
                House h = new House().put(0, text(alg, way, "")).put(1, PAYLOAD).mark();
                h.x.key(0);
                h.put(2, Arrays.copyOf(random, random.length - 1));
                Check.same("too few", h.x.encrypt(0, alg, way, 1, 2, -1, -1), House.RANDOM);
                h.put(2, new byte[0]);
                Check.same("none", h.x.encrypt(0, alg, way, 1, 2, -1, -1), House.RANDOM);
                h.put(2, Arrays.copyOf(new byte[32], Math.max(random.length, 32)));
                int zeros = h.x.encrypt(0, alg, way, 1, 2, -1, -1);
                Check.that("zeros", alg >= 4 ? zeros == House.RANDOM : zeros > 0);
                h.mark();
                if (alg >= 4) {
                    for (int d = 0; d < 3; d++) {
                        h.put(2, House.join(NumberTest.fixed(NumberTest.N.add(BigInteger.valueOf(d)), 32), new byte[100]));
                        Check.same("the order or more", h.x.encrypt(0, alg, way, 1, 2, -1, -1), House.RANDOM);
                    }
                    h.unmarked("encrypt");
                    h.put(2, House.join(NumberTest.fixed(NumberTest.N.subtract(BigInteger.ONE), 32), new byte[100]));
                    Check.that("the order less 1", h.x.encrypt(0, alg, way, 1, 2, -1, -1) > 0);
                    h.x.keep(5);
                    Check.same("decrypt", h.x.decrypt(5), 0);
                }
                h.put(2, random);
                int many = h.x.encrypt(0, alg, way, 1, 2, -1, -1);
                String token = h.outText();
                h.put(2, House.join(random, new byte[20]));
                Check.same("more than needed", h.x.encrypt(0, alg, way, 1, 2, -1, -1), many);
                Check.that("more than needed", h.outText().equals(token));
            }
        }
    }

    private static void orderOfRefusals() {
        House h = new House().put(0, Keys.ec(D, true, "")).put(1, new byte[8192]).put(3, Keys.oct(new byte[16], "")).mark();
        SealedTokens x = h.x;
        x.key(0);
        x.key(3);
        int[][] bad = {{-1, 4, 0, 1, 2, -1, -1}, {2, 4, 0, 1, 2, -1, -1}, {16, 4, 0, 1, 2, -1, -1}, {0, -1, 0, 1, 2, -1, -1}, {0, 6, 0, 1, 2, -1, -1}, {0, 4, -1, 1, 2, -1, -1}, {0, 4, 4, 1, 2, -1, -1},
            {0, 4, 0, -1, 2, -1, -1}, {0, 4, 0, 8, 2, -1, -1}, {0, 4, 0, 1, -1, -1, -1}, {0, 4, 0, 1, 8, -1, -1}, {0, 4, 0, 1, 2, -2, -1}, {0, 4, 0, 1, 2, 8, -1}, {0, 4, 0, 1, 2, -1, -2}, {0, 5, 0, 1, 2, -1, 8},
            {1, 4, 0, 1, 2, 8, -1}, {1, 5, 0, 1, 2, -1, 8}, {1, 0, 2, 1, -1, -1, -1}, {1, 2, 2, 1, 8, 0, 0}};
        for (int[] b : bad) {
            Check.same("encrypt " + Arrays.toString(b), x.encrypt(b[0], b[1], b[2], b[3], b[4], b[5], b[6]), House.BAD);
        }
        Check.same("KEY before RANDOM", x.encrypt(1, 4, 0, 1, 2, -1, -1), House.KEY);
        Check.same("KEY before RANDOM", x.encrypt(0, 0, 0, 1, 2, 99, 99), House.KEY);
        Check.same("RANDOM before LARGE", x.encrypt(0, 4, 0, 1, 2, -1, -1), House.RANDOM);
        Check.same("RANDOM before LARGE", x.encrypt(1, 0, 2, 1, 2, 99, -99), House.RANDOM);
        h.put(2, House.join(new byte[32], Keys.bytes(100, 1)));
        Check.same("RANDOM before LARGE", x.encrypt(0, 4, 0, 1, 2, -1, -1), House.RANDOM);
        h.put(2, Keys.bytes(150, 1));
        Check.same("LARGE", x.encrypt(0, 4, 0, 1, 2, -1, -1), House.LARGE);
        Check.same("LARGE", x.encrypt(1, 1, 3, 1, 2, -1, -1), House.LARGE);
        h.unmarked("encrypt");
    }

    private static void large() throws Exception {
        for (int way = 0; way < 4; way++) {
            byte[] random = random(0, way);
            House h = new House().put(0, text(0, way, "")).put(2, random);
            h.x.key(0);
            String head = head(0, way, "", null, null);
            boolean over = false;
            boolean under = false;
            for (int many = 5900; many < 6144; many++) {
                int sealed = way < 2 ? (many / 16 + 1) * 16 : many;
                int due = 4 + letters(head.length()) + letters(Maker.FIRST[way]) + letters(sealed) + letters(Maker.MARK[way]);
                h.mark().put(1, Keys.bytes(many, 1));
                Check.same("encrypt " + many, h.x.encrypt(0, 0, way, 1, 2, -1, -1), due > 8192 ? House.LARGE : due);
                if (due > 8192) {
                    h.unmarked("encrypt");
                    over = true;
                } else {
                    under = true;
                    h.x.keep(5);
                    Check.same("decrypt", h.x.decrypt(5), 0);
                    Check.same("payload", h.out(), Keys.bytes(many, 1));
                }
            }
            Check.that("both sides of the brim", over && under);
        }
        for (int alg = 0; alg < 6; alg++) {
            byte[] random = random(alg, 2);
            House h = new House().put(0, text(alg, 2, "")).put(2, random).put(3, U);
            h.x.key(0);
            int sealedKey = alg == 0 || alg == 4 ? 0 : alg == 3 ? 128 : 24;
            int rest = 4 + letters(head(alg, 2, "", U, null).length()) + letters(sealedKey) + letters(12) + letters(16);
            int most = (8192 - rest) * 3 / 4;
            h.put(1, new byte[most]);
            Check.same("encrypt by " + alg, h.x.encrypt(0, alg, 2, 1, 2, 3, -1), rest + letters(most));
            h.mark().put(1, new byte[most + 1]);
            Check.same("encrypt by " + alg, h.x.encrypt(0, alg, 2, 1, 2, 3, -1), House.LARGE);
            h.unmarked("encrypt");
        }
        House h = new House().put(0, Keys.ec(D, true, "")).put(1, "").put(2, Keys.bytes(150, 1)).put(3, new byte[8192]).mark();
        h.x.key(0);
        Check.same("a large u", h.x.encrypt(0, 4, 0, 1, 2, 3, -1), House.LARGE);
        Check.same("a large v", h.x.encrypt(0, 4, 0, 1, 2, -1, 3), House.LARGE);
        Check.same("both", h.x.encrypt(0, 5, 0, 1, 2, 3, 3), House.LARGE);
        String kid = "k".repeat(8192 - Keys.ec(D, true, ",\"kid\":\"\"").length());
        h.put(0, Keys.ec(D, true, ",\"kid\":\"" + kid + "\""));
        Check.same("key", h.x.key(0), 1);
        Check.same("a large kid", h.x.encrypt(1, 4, 0, 1, 2, -1, -1), House.LARGE);
        h.unmarked("encrypt");
        h.put(3, new byte[4000]);
        Check.that("a long u", h.x.encrypt(0, 4, 0, 1, 2, 3, -1) > 7000);
        h.x.keep(5);
        Check.same("a long u", h.x.decrypt(5), 0);
    }

    private static int letters(int bytes) {
        return House.letters(new byte[bytes]).length();
    }

    private static int decrypt(House h, String token) {
        h.put(5, token).mark();
        int answer = h.x.decrypt(5);
        if (answer < 0) {
            h.unmarked("decrypt");
        }
        return answer;
    }

    private static void forms() {
        House h = new House().put(0, Keys.oct(new byte[16], ""));
        h.x.key(0);
        String head = House.letters("{\"alg\":\"dir\",\"enc\":\"A128GCM\"}");
        for (String token : new String[] {"", "a", "..", "...", ".....", "!.!.!.!", head + "...", head + ".....", head + "..", "......"}) {
            Check.same("decrypt " + token, decrypt(h, token), House.FORM);
        }
        for (int part = 0; part < 5; part++) {
            for (String wrong : new String[] {"A", "AB", "=", "AAAA=", " ", "AAAAA", "\u00ff"}) {
                String[] parts = {head, "", "AAAA", "", "AA"};
                parts[part] = wrong;
                Check.same("decrypt", decrypt(h, String.join(".", parts)), House.PART);
                parts[0] = part == 0 ? wrong : "AAAA";
                Check.same("PART before TEXT", decrypt(h, String.join(".", parts)), House.PART);
            }
        }
        Check.same("no head", decrypt(h, "...."), House.TEXT);
        Check.same("decrypt", h.x.decrypt(-1), House.BAD);
        Check.same("decrypt", h.x.decrypt(8), House.BAD);
    }

    private static void headsThatCome() throws Exception {
        String enc = "\"enc\":\"A128GCM\"";
        String plain = "\"alg\":\"dir\"," + enc;
        BigInteger[] p = FRESH_POINT;
        String x = House.letters(NumberTest.fixed(p[0], 32));
        String y = House.letters(NumberTest.fixed(p[1], 32));
        String es = "\"alg\":\"ECDH-ES\"," + enc;
        String epk = "\"epk\":{\"kty\":\"EC\",\"crv\":\"P-256\",\"x\":\"" + x + "\",\"y\":\"" + y + "\"}";
        List<Object[]> heads = new ArrayList<>();
        for (String text : new String[] {"", "{", "{" + plain + "}x", "{" + plain + ",\"a\":1,\"a\":2}"}) {
            heads.add(new Object[] {text, House.TEXT});
        }
        for (String text : new String[] {"[]", "1", "\"dir\""}) {
            heads.add(new Object[] {text, House.HEAD});
        }
        String[] head = {"", enc, "\"alg\":\"dir\"", "\"alg\":1," + enc, "\"alg\":\"dir\",\"enc\":1", "\"alg\":\"dir\",\"enc\":null", plain + ",\"kid\":1", plain + ",\"kid\":null", plain + ",\"crit\":1",
            plain + ",\"crit\":[]", plain + ",\"crit\":[1]", plain + ",\"crit\":[\"x\",\"x\"]", plain + ",\"crit\":\"x\"", plain + ",\"zip\":\"DEF\"", plain + ",\"zip\":null", plain + ",\"zip\":1,\"crit\":[\"x\"]",
            "\"alg\":\"x\",\"enc\":\"y\",\"zip\":\"\"", "\"alg\":\"x\",\"enc\":2", es, es + ",\"epk\":1", es + ",\"epk\":\"x\"", es + ",\"epk\":[]", es + ",\"epk\":{}",
            es + "," + epk.replace("\"kty\":\"EC\",", ""), es + "," + epk.replace("\"EC\"", "\"RSA\""), es + "," + epk.replace("\"EC\"", "1"), es + "," + epk.replace("\"crv\":\"P-256\",", ""), es + "," + epk.replace("P-256", "P-521"),
            es + "," + epk.replace("\"P-256\"", "256"), es + "," + epk.replace("\"x\":", "\"X\":"), es + "," + epk.replace("\"y\":", "\"Y\":"), es + "," + epk.replace("\"" + x + "\"", "1"), es + "," + epk.replace("\"" + y + "\"", "null"),
            es + "," + epk.replace(x, x.substring(0, 42)), es + "," + epk.replace(x, ""), es + "," + epk.replace(y, y + "A"), es + "," + epk.replace(y, y + "AAAA"), es + "," + epk.replace(y, x), es + "," + epk.replace(y, y.substring(0, 42) + "_"),
            es + "," + epk + ",\"apu\":1", es + "," + epk + ",\"apv\":null", es + "," + epk + ",\"apu\":\"A\"", es + "," + epk + ",\"apv\":\"AB\"", es + "," + epk + ",\"apu\":\"=\"", es + "," + epk + ",\"apv\":[]",
            es.replace("ES", "ES+A128KW"), es.replace("ES", "ES+A128KW") + "," + epk + ",\"apu\":2"};
        for (String text : head) {
            heads.add(new Object[] {"{" + text + "}", House.HEAD});
        }
        for (String text : new String[] {plain + ",\"crit\":[\"x\"]", plain + ",\"crit\":[\"b64\"],\"b64\":true", plain + ",\"crit\":[\"alg\",\"enc\"]", "\"alg\":\"x\",\"enc\":\"y\",\"crit\":[\"z\"]", es + ",\"crit\":[\"b64\"]"}) {
            heads.add(new Object[] {"{" + text + "}", House.NAMES});
        }
        for (String text : new String[] {"\"alg\":\"none\"," + enc, "\"alg\":\"Dir\"," + enc, "\"alg\":\"HS256\"," + enc, "\"alg\":\"A192KW\"," + enc, "\"alg\":\"RSA-OAEP\"," + enc, "\"alg\":\"ECDH-ES+A256KW\"," + enc, "\"alg\":\"\"," + enc,
            "\"alg\":\"dir\",\"enc\":\"A192GCM\"", "\"alg\":\"dir\",\"enc\":\"a128gcm\"", "\"alg\":\"dir\",\"enc\":\"\"", "\"alg\":\"dir\",\"enc\":\"dir\"", "\"alg\":\"ECDH-ES\",\"enc\":\"x\"", "\"alg\":\"ECDH\"," + enc}) {
            heads.add(new Object[] {"{" + text + "}", House.ALG});
        }
        for (String text : new String[] {plain, plain + ",\"kid\":\"\"", plain + ",\"b64\":7", plain + ",\"epk\":1,\"apu\":2,\"apv\":3", es + "," + epk, es + "," + epk + ",\"apu\":\"\",\"apv\":\"AA\"",
            es + "," + epk.replace("{", "{\"kid\":1,\"use\":2,\"alg\":3,\"d\":4,") + ",\"typ\":1", "\"alg\":\"A128KW\",\"enc\":\"A256CBC-HS512\""}) {
            heads.add(new Object[] {"{" + text + "}", House.KEY});
        }
        House h = new House();
        for (Object[] one : heads) {
            Check.same("decrypt " + one[0], decrypt(h, House.letters((String) one[0]) + "...."), (Integer) one[1]);
        }
        // a head in another form than the made one is sealed for as it stands
        House other = new House().put(0, Keys.ec(D, true, ""));
        other.x.key(0);
        String moved = " { " + epk + ",\n\"apv\":\"Qm9iAA\",\"enc\":\"A128GCM\", \"typ\":[1], \"alg\":\"ECDH\\u002dES\"}";
        Check.same("decrypt", decrypt(other, token(4, 2, moved, null, V, PAYLOAD)), 0);
        Check.same("payload", other.out(), PAYLOAD);
    }

    private static void wrongs() throws Exception {
        for (int alg = 0; alg < 6; alg++) {
            for (int way = 0; way < 4; way++) {
                if (!fits(alg, way)) {
                    continue;
                }
                House h = new House().put(0, text(alg, way, ""));
                h.x.key(0);
                String right = token(alg, way, head(alg, way, "", U, V), U, V, PAYLOAD);
                Check.same("decrypt", decrypt(h, right), 0);
                for (int part = 1; part < 5; part++) {
                    String[] parts = right.split("\\.", -1);
                    byte[] bytes = House.unletters(parts[part]);
                    List<byte[]> others = new ArrayList<>(List.of(new byte[0], House.join(bytes, new byte[1]), House.join(bytes, new byte[8]), House.join(bytes, new byte[16]), House.join(new byte[1], bytes), new byte[200], new byte[2000]));
                    if (bytes.length > 0) {
                        others.add(Arrays.copyOf(bytes, bytes.length - 1));
                        others.add(Arrays.copyOf(bytes, bytes.length / 2));
                        byte[] changed = bytes.clone();
                        changed[bytes.length / 2] ^= 8;
                        others.add(changed);
                        others.add(new byte[bytes.length]);
                    }
                    for (byte[] some : others) {
                        if (!Arrays.equals(some, bytes)) {
                            parts[part] = House.letters(some);
                            Check.same("decrypt by " + alg + ", " + way + ", part " + part, decrypt(h, String.join(".", parts)), House.WRONG);
                        }
                    }
                }
            }
        }
        // a content key of another size, wrapped rightly
        byte[] key = Keys.bytes(16, 51);
        for (int many = 16; many <= 64; many += 8) {
            for (int way = 0; way < 4; way++) {
                byte[] content = Keys.bytes(Maker.KEY[way], 9);
                String token = Maker.token(head(1, way, "", null, null), Maker.wrap(key, Arrays.copyOf(content, many)), new byte[Maker.FIRST[way]], way, content, PAYLOAD);
                House h = new House().put(0, Keys.oct(key, ""));
                h.x.key(0);
                Check.same("a content key of " + many + " for " + way, decrypt(h, token), many == Maker.KEY[way] ? 0 : House.WRONG);
            }
        }
    }

    /** Frames of OAEP that are wrong in one way each. */
    private static void oaepEdges() throws Exception {
        for (int bits : new int[] {1024, 1017, 785}) {
            Keys k = Keys.rsa(bits, 65537, bits + 1);
            int many = k.many();
            House h = new House().put(0, k.text(true, ""));
            h.x.key(0);
            for (int fault = 0; fault < 10; fault++) {
                byte[] key = Keys.bytes(fault == 6 ? 17 : fault == 7 ? 15 : 16, 5);
                byte[] content = Arrays.copyOf(key, 16);
                byte[] seed = Keys.bytes(32, 6);
                byte[] db = House.join(Maker.hash(new byte[0]), new byte[many - 66 - key.length], new byte[] {1}, key);
                if (fault == 1) {
                    db[0] ^= 1;
                } else if (fault == 2) {
                    db[31] ^= 1;
                } else if (fault == 3) {
                    db[db.length - key.length - 1] = 2;
                } else if (fault == 4) {
                    db[32] ^= 3;
                } else if (fault == 5) {
                    Arrays.fill(db, 32, db.length, (byte) 0);
                } else if (fault == 9) {
                    db[32] = 1;
                }
                byte[] mask = Maker.mask(seed, db.length);
                for (int i = 0; i < db.length; i++) {
                    db[i] ^= mask[i];
                }
                mask = Maker.mask(db, 32);
                for (int i = 0; i < 32; i++) {
                    seed[i] ^= mask[i];
                }
                BigInteger m = new BigInteger(1, House.join(seed, db));
                if (fault == 8) {
                    m = m.setBit(8 * many - 8);
                }
                if (m.compareTo(k.n) >= 0) {
                    continue;
                }
                BigInteger c = m.modPow(k.e, k.n);
                String token = Maker.token(head(3, 2, "", null, null), NumberTest.fixed(c, many), new byte[12], 2, content, PAYLOAD);
                Check.same("OAEP of " + bits + " bits, fault " + fault, decrypt(h, token), fault == 0 ? 0 : House.WRONG);
                BigInteger more = c.add(k.n);
                if (more.bitLength() <= 8 * many) {
                    token = Maker.token(head(3, 2, "", null, null), NumberTest.fixed(more, many), new byte[12], 2, content, PAYLOAD);
                    Check.same("not below n", decrypt(h, token), House.WRONG);
                }
            }
        }
    }

    private static void whichKey() throws Exception {
        House h = new House();
        String[] more = {"", ",\"kid\":\"a\"", ",\"kid\":\"b\"", ",\"kid\":\"a\"", ",\"kid\":\"a\",\"use\":\"sig\""};
        byte[][] ks = new byte[5][];
        for (int i = 0; i < 5; i++) {
            ks[i] = Keys.bytes(16, 200 + i);
            h.put(0, Keys.oct(ks[i], more[i]));
            Check.same("key", h.x.key(0), i);
        }
        Object[][] cases = {{"", 0, 0}, {"", 1, 1}, {"", 3, 3}, {"", 4, House.WRONG}, {",\"kid\":\"a\"", 0, House.WRONG}, {",\"kid\":\"a\"", 1, 1}, {",\"kid\":\"\\u0061\"", 3, 3}, {",\"kid\":\"a\"", 4, House.WRONG},
            {",\"kid\":\"b\"", 2, 2}, {",\"kid\":\"b\"", 1, House.WRONG}, {",\"kid\":\"\"", 0, House.KEY}, {",\"kid\":\"c\"", 0, House.KEY}};
        for (Object[] c : cases) {
            for (int alg = 0; alg < 2; alg++) {
                byte[] key = ks[(Integer) c[1]];
                byte[] content = alg == 0 ? key : Keys.bytes(16, 8);
                String token = Maker.token(head(alg, 2, (String) c[0], null, null), alg == 0 ? new byte[0] : Maker.wrap(key, content), new byte[12], 2, content, PAYLOAD);
                Check.same("decrypt " + c[0] + " of " + c[1], decrypt(h, token), (Integer) c[2]);
            }
        }
        String token = Maker.token(head(0, 2, "", null, null), new byte[0], new byte[12], 2, ks[3], PAYLOAD);
        h.x.drop(1);
        h.put(0, Keys.oct(ks[3], ""));
        h.x.key(0);
        Check.same("the first by its number", decrypt(h, token), 1);
        h.x.drop(1);
        Check.same("the first by its number", decrypt(h, token), 3);
        String large = Maker.token(head(0, 3, "", null, null), new byte[0], new byte[12], 3, new byte[32], PAYLOAD);
        Check.same("none has 32 bytes", decrypt(h, large), House.KEY);
    }

    private static void everyByte() throws Exception {
        for (int alg : new int[] {1, 5}) {
            House h = new House().put(0, text(alg, 0, "")).put(1, PAYLOAD).put(2, random(alg, 0)).put(3, U).put(4, V);
            h.x.key(0);
            int many = h.x.encrypt(0, alg, 0, 1, 2, 3, 4);
            h.x.keep(5);
            for (int i = 0; i < many; i++) {
                h.x.poke(5, i, 1);
                Check.that("decrypt, byte " + i, h.x.decrypt(5) < 0);
                h.x.poke(5, i, 1);
            }
            Check.same("decrypt", h.x.decrypt(5), 0);
        }
    }
}
