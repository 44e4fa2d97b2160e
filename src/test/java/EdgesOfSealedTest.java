import java.math.BigInteger;
import java.util.Arrays;

/** Promises 33 and 34: each sentence that names a boundary. */
public final class EdgesOfSealedTest {
    private static final int[] NO_ROWS = {-1, -2, 8, Integer.MIN_VALUE, Integer.MAX_VALUE};
    private static final BigInteger ONE = BigInteger.ONE, N = NumberTest.N, P = NumberTest.P;
    private static final byte[] NONE = {}, PAYLOAD = House.bytes("payload");
    private static final String EC = Keys.ec(SealedTest.D, true, "");
    private static final BigInteger[] FRESH_POINT = SealedTest.FRESH_POINT;

    public static void main(String[] args) throws Exception {
        badNumbers();
        partiesAreNotLookedAt();
        kindsUsesAlgs();
        numbersOfBytes();
        randomBytes();
        freshSecrets();
        numbersThatBeginWith0();
        madeHeads();
        oneRowForAll();
        large();
        firstRefusalOfEncrypt();
        decryptRows();
        forms();
        parts();
        headTexts();
        headMembers();
        headCrit();
        headAlgs();
        epk();
        epkPoints();
        parties();
        kids();
        firstKey();
        keysOfAKind();
        sealedKeys();
        contentKeys();
        beginningsAndMarks();
        contents();
        firstRefusalOfDecrypt();
        Check.end(33, 34);
    }

    private static String text(int alg, int way, String more) {
        return alg < 4 ? SealedTest.text(alg, way, more) : EC.substring(0, EC.length() - 1) + more + "}";
    }

    /** A key is number 1, the payload in row 2, what is drawn in row 3. */
    private static House ready(String text, byte[] payload, byte[] random) {
        House h = House.lived().put(1, text).put(2, payload).put(3, random);
        Check.same("key", h.x.key(1), 1);
        return h;
    }

    private static House ready(int alg, int way) {
        return ready(text(alg, way, ""), PAYLOAD, SealedTest.random(alg, way));
    }

    private static void badNumbers() {
        House h = ready(4, 0);
        House oct = ready(1, 0);
        Check.promise(33, "BAD: no such key");
        for (int k : new int[] {-1, -2, 2, 15, 16, Integer.MIN_VALUE, Integer.MAX_VALUE}) {
            Check.refused(h, "key " + k, () -> h.x.encrypt(k, 4, 0, 2, 3, -1, -1), House.BAD);
        }
        Check.promise(33, "BAD: alg is not 0 .. 5");
        for (int alg : new int[] {-1, 6, 7, Integer.MIN_VALUE, Integer.MAX_VALUE}) {
            Check.refused(h, "alg " + alg, () -> h.x.encrypt(1, alg, 0, 2, 3, -1, -1), House.BAD);
        }
        Check.promise(33, "BAD: enc is not 0 .. 3");
        for (int enc : new int[] {-1, 4, 5, Integer.MIN_VALUE, Integer.MAX_VALUE}) {
            Check.refused(h, "enc " + enc, () -> h.x.encrypt(1, 4, enc, 2, 3, -1, -1), House.BAD);
        }
        Check.promise(33, "BAD: no such row");
        for (int r : NO_ROWS) {
            Check.refused(h, "payload " + r, () -> h.x.encrypt(1, 4, 0, r, 3, -1, -1), House.BAD);
            Check.refused(h, "random " + r, () -> h.x.encrypt(1, 4, 0, 2, r, -1, -1), House.BAD);
            Check.refused(oct, "payload " + r, () -> oct.x.encrypt(1, 1, 0, r, 3, -1, -1), House.BAD);
            Check.refused(oct, "random " + r, () -> oct.x.encrypt(1, 1, 0, 2, r, -1, -1), House.BAD);
        }
        Check.promise(33, "BAD: u and v of ECDH are no rows, nor NONE, and before KEY");
        for (int r : new int[] {-2, 8, Integer.MIN_VALUE, Integer.MAX_VALUE}) {
            for (int alg = 4; alg < 6; alg++) {
                int wanted = alg;
                Check.refused(h, "u " + r, () -> h.x.encrypt(1, wanted, 0, 2, 3, r, -1), House.BAD);
                Check.refused(h, "v " + r, () -> h.x.encrypt(1, wanted, 0, 2, 3, -1, r), House.BAD);
                Check.refused(oct, "u " + r, () -> oct.x.encrypt(1, wanted, 0, 2, 3, r, -1), House.BAD);
                Check.refused(oct, "v " + r, () -> oct.x.encrypt(1, wanted, 0, 2, 3, -1, r), House.BAD);
            }
        }
    }

    private static void partiesAreNotLookedAt() {
        Check.promise(33, "u and v are looked at for ECDH alone: any numbers may stand there else");
        for (int alg = 0; alg < 4; alg++) {
            House h = ready(alg, 2);
            int due = h.x.encrypt(1, alg, 2, 2, 3, -1, -1);
            String token = h.outText();
            Check.that("encrypt", due > 0);
            for (int r : new int[] {-2, 0, 7, 8, Integer.MIN_VALUE, Integer.MAX_VALUE}) {
                Check.same("u and v are " + r, h.x.encrypt(1, alg, 2, 2, 3, r, r), due);
                Check.that("the same token", h.outText().equals(token));
            }
        }
    }

    private static String head(int alg, int way) {
        return SealedTest.head(alg, way, "", null, null);
    }

    /** Whether a key may be used: decrypt says else WRONG to a token of empty parts. */
    private static void may(String text, int alg, int way, boolean seal, boolean open) {
        House h = ready(text, PAYLOAD, SealedTest.random(alg, way));
        h.put(5, House.letters(alg < 4 ? head(alg, way) : HEADS[alg - 4][way]) + "....");
        Check.refused(h, "decrypt by " + alg + ", " + way + " with " + text, () -> h.x.decrypt(5), open ? House.WRONG : House.KEY);
        if (seal) {
            Check.that("encrypt by " + alg + ", " + way + " with " + text, h.x.encrypt(1, alg, way, 2, 3, -1, -1) > 0);
        } else {
            Check.refused(h, "encrypt by " + alg + ", " + way + " with " + text, () -> h.x.encrypt(1, alg, way, 2, 3, -1, -1), House.KEY);
        }
    }

    private static final String[][] HEADS = {{head(4, 0), head(4, 1), head(4, 2), head(4, 3)}, {head(5, 0), head(5, 1), head(5, 2), head(5, 3)}};

    private static void kindsUsesAlgs() {
        for (int alg = 0; alg < 6; alg++) {
            for (int way = 0; way < 4; way++) {
                boolean fits = SealedTest.fits(alg, way);
                Check.promise(33, "a key may be used if it is of its kind (oct; RSA; EC)");
                may(text(alg, way, ""), alg, way, fits, fits);
                may(alg < 4 ? EC : SealedTest.RSA.text(true, ""), alg, way, false, false);
                may(alg < 3 ? SealedTest.RSA.text(true, "") : Keys.oct(new byte[Maker.KEY[way]], ""), alg, way, false, false);
                Check.promise(33, "its use is not there or enc");
                may(text(alg, way, ",\"use\":\"enc\""), alg, way, fits, fits);
                for (String use : new String[] {"sig", "", "en", "encc", "ENC"}) {
                    may(text(alg, way, ",\"use\":\"" + use + "\""), alg, way, false, false);
                }
                Check.promise(33, "its alg is not there or this one");
                for (int other = 0; other < 6; other++) {
                    may(text(alg, way, ",\"alg\":\"" + Maker.SEALED[other] + "\""), alg, way, fits && other == alg, fits && other == alg);
                }
                for (String other : new String[] {"", "Dir", "ECDH", "RSA-OAEP", "HS256", Maker.WAYS[way]}) {
                    may(text(alg, way, ",\"alg\":\"" + other + "\""), alg, way, false, false);
                }
            }
        }
    }

    private static void numbersOfBytes() {
        String openEc = Keys.ec(SealedTest.D, false, "");
        for (int way = 0; way < 4; way++) {
            for (int many : new int[] {1, 15, 16, 17, 24, 31, 32, 33, 63, 64, 65, 128}) {
                String text = Keys.oct(new byte[many], "");
                Check.promise(33, "of dir it has just as many bytes as the way wants");
                may(text, 0, way, many == Maker.KEY[way], many == Maker.KEY[way]);
                Check.promise(33, "of A128KW 16, of A256KW 32");
                may(text, 1, way, many == 16, many == 16);
                may(text, 2, way, many == 32, many == 32);
            }
            Check.promise(33, "n has 66 and as many more as the content key");
            int least = 66 + Maker.KEY[way];
            for (int many : new int[] {least - 1, least, least + 1, 128}) {
                if (many <= 128) {
                    Keys k = Keys.rsa(8 * many, 3, many);
                    may(k.text(true, ""), 3, way, many >= least, many >= least);
                    Check.promise(33, "to open with RSA: d is there");
                    may(k.text(false, ""), 3, way, many >= least, false);
                }
            }
            Check.promise(33, "to open with EC: d is there");
            may(openEc, 4, way, true, false);
            may(openEc, 5, way, true, false);
        }
    }

    private static void randomBytes() throws Exception {
        for (int alg = 0; alg < 6; alg++) {
            for (int way = 0; way < 4; way++) {
                if (SealedTest.fits(alg, way)) {
                    byte[] random = SealedTest.random(alg, way);
                    int wanted = alg;
                    int by = way;
                    House h = ready(alg, way);
                    Check.promise(33, "RANDOM: the row has too few bytes");
                    for (int many : new int[] {0, 1, Math.min(31, random.length - 1), random.length - 1}) {
                        h.put(3, Arrays.copyOf(random, many));
                        Check.refused(h, "random of " + many + " by " + alg + ", " + way, () -> h.x.encrypt(1, wanted, by, 2, 3, -1, -1), House.RANDOM);
                    }
                    Check.promise(33, "the fresh secret; the content key; the seed; the beginning");
                    String due = SealedTest.token(alg, way, alg < 4 ? head(alg, way) : HEADS[alg - 4][way], null, null, PAYLOAD);
                    for (int more : new int[] {0, 1, 100}) {
                        h.put(3, House.join(new byte[] {3}, new byte[200]));
                        Check.that("others before", h.x.encrypt(1, alg, way, 2, 3, -1, -1) > 0);
                        h.put(3, House.join(random, Keys.bytes(more, 1)));
                        Check.same("encrypt by " + alg + ", " + way, h.x.encrypt(1, alg, way, 2, 3, -1, -1), due.length());
                        Check.that("the token", h.outText().equals(due));
                    }
                }
            }
        }
    }

    private static void freshSecrets() {
        for (int alg = 4; alg < 6; alg++) {
            int wanted = alg;
            House h = ready(alg, 0);
            Check.promise(33, "RANDOM: the fresh secret is not 1 .. the order less 1");
            for (BigInteger d : new BigInteger[] {BigInteger.ZERO, N, N.add(ONE), ONE.shiftLeft(256).subtract(ONE)}) {
                h.put(3, House.join(NumberTest.fixed(d, 32), Keys.bytes(100, 1)));
                Check.refused(h, "a fresh secret of " + d, () -> h.x.encrypt(1, wanted, 0, 2, 3, -1, -1), House.RANDOM);
            }
            Check.promise(33, "the fresh secret is 1 .. the order less 1");
            for (BigInteger d : new BigInteger[] {ONE, BigInteger.TWO, N.subtract(BigInteger.TWO), N.subtract(ONE)}) {
                h.put(3, House.join(NumberTest.fixed(d, 32), Keys.bytes(100, 1)));
                Check.that("a fresh secret of " + d, h.x.encrypt(1, alg, 0, 2, 3, -1, -1) > 0);
                BigInteger[] p = NumberTest.times(d, NumberTest.G);
                String head = new String(House.unletters(h.outText().substring(0, h.outText().indexOf('.'))), java.nio.charset.StandardCharsets.ISO_8859_1);
                Check.that("its point", head.contains("\"x\":\"" + House.letters(NumberTest.fixed(p[0], 32)) + "\",\"y\":\"" + House.letters(NumberTest.fixed(p[1], 32)) + "\"}"));
                h.x.keep(5);
                Check.same("decrypt", h.x.decrypt(5), 1);
            }
        }
        Check.promise(33, "content keys, seeds and beginnings may be any bytes");
        byte[] full = new byte[200];
        Arrays.fill(full, (byte) 255);
        for (int alg = 0; alg < 4; alg++) {
            for (byte[] random : new byte[][] {new byte[200], full}) {
                House h = ready(text(alg, 2, ""), PAYLOAD, random);
                Check.that("encrypt by " + alg, h.x.encrypt(1, alg, 2, 2, 3, -1, -1) > 0);
                h.x.keep(5);
                Check.same("decrypt", h.x.decrypt(5), 1);
            }
        }
    }

    private static void numbersThatBeginWith0() throws Exception {
        BigInteger[] point = NumberTest.times(SealedTest.D, NumberTest.G);
        BigInteger[] secrets = {NumberTest.leadingZero(point, 0), NumberTest.leadingZero(NumberTest.G, 0), NumberTest.leadingZero(NumberTest.G, 1)};
        Check.promise(33, "a shared secret, and x, y of a fresh point, that begin with 0 have 32 bytes");
        for (BigInteger fresh : secrets) {
            BigInteger[] p = NumberTest.times(fresh, NumberTest.G);
            String head = HEADS[0][2].replace(x(FRESH_POINT[0]), x(p[0])).replace(x(FRESH_POINT[1]), x(p[1]));
            byte[] key = DigestTest.derive(Maker.shared(fresh, point), House.bytes("A128GCM"), NONE, NONE, 16);
            String due = Maker.token(head, NONE, new byte[12], 2, key, PAYLOAD);
            House h = ready(text(4, 2, ""), PAYLOAD, House.join(NumberTest.fixed(fresh, 32), new byte[12]));
            Check.same("encrypt", h.x.encrypt(1, 4, 2, 2, 3, -1, -1), due.length());
            Check.that("the token", h.outText().equals(due));
            decrypt(h, due, 1);
        }
        Check.promise(33, "a sealed key of RSA that begins with 0 has as many bytes as n");
        byte[] sealed = {1};
        byte[] seed = {};
        for (int turn = 0; sealed[0] != 0; turn++) {
            seed = Keys.bytes(32, turn);
            sealed = Maker.oaep(SealedTest.RSA, new byte[16], seed);
        }
        String due = Maker.token(head(3, 2), sealed, new byte[12], 2, new byte[16], PAYLOAD);
        House h = ready(text(3, 2, ""), PAYLOAD, House.join(new byte[16], seed, new byte[12]));
        Check.same("encrypt", h.x.encrypt(1, 3, 2, 2, 3, -1, -1), due.length());
        Check.that("the token", h.outText().equals(due));
        decrypt(h, due, 1);
        h.mark();
        decrypt(h, replaced(due, 1, Arrays.copyOfRange(sealed, 1, 128)), House.WRONG);
    }

    private static void madeHeads() throws Exception {
        String[][] kids = {{"", ""}, {",\"kid\":\"\"", ",\"kid\":\"\""}, {",\"kid\":\"\\u001F\\u0020\\/\\u0022\"", ",\"kid\":\"\\u001f /\\\"\""}};
        byte[][] parties = {null, NONE, {0}, House.bytes("Bob"), new byte[300]};
        for (int alg = 0; alg < 6; alg++) {
            Check.promise(33, "members alg, enc, kid (if the key has one)");
            for (String[] kid : kids) {
                House h = ready(text(alg, 3, kid[0]), NONE, SealedTest.random(alg, 3));
                String due = SealedTest.token(alg, 3, SealedTest.head(alg, 3, kid[1], null, null), null, null, NONE);
                Check.same("encrypt", h.x.encrypt(1, alg, 3, 2, 3, -1, -1), due.length());
                Check.that("the token", h.outText().equals(due));
                h.x.keep(5);
                Check.same("decrypt", h.x.decrypt(5), 1);
                Check.same("a payload of no bytes", h.x.size(-1), 0);
            }
            for (byte[] u : alg < 4 ? new byte[0][] : parties) {
                for (byte[] v : parties) {
                    Check.promise(33, "apu, apv (if told)");
                    House h = ready(alg, 2).put(4, u == null ? NONE : u).put(6, v == null ? NONE : v);
                    String due = SealedTest.token(alg, 2, SealedTest.head(alg, 2, "", u, v), u, v, PAYLOAD);
                    Check.same("encrypt", h.x.encrypt(1, alg, 2, 2, 3, u == null ? -1 : 4, v == null ? -1 : 6), due.length());
                    Check.that("the token", h.outText().equals(due));
                }
            }
        }
    }

    private static void oneRowForAll() throws Exception {
        Check.promise(33, "one row as payload, random, u and v");
        for (int alg = 4; alg < 6; alg++) {
            byte[] all = SealedTest.random(alg, 2);
            House h = ready(text(alg, 2, ""), PAYLOAD, all);
            String due = SealedTest.token(alg, 2, SealedTest.head(alg, 2, "", all, all), all, all, all);
            Check.same("encrypt", h.x.encrypt(1, alg, 2, 3, 3, 3, 3), due.length());
            Check.that("the token", h.outText().equals(due));
        }
    }

    private static int letters(int bytes) {
        return House.letters(new byte[bytes]).length();
    }

    private static void large() {
        for (int alg = 0; alg < 6; alg++) {
            for (int way = 0; way < 4; way++) {
                if (SealedTest.fits(alg, way)) {
                    large(alg, way);
                }
            }
        }
        Check.promise(33, "LARGE: of u, of v, or of a kid, that is long");
        int fixed = HEADS[0][2].length() + ",\"apu\":\"\"".length();
        int rest = 4 + letters(12) + letters(16);
        for (int many : new int[] {4000, 4500, 4501, 4502, 4503, 4504, 4505, 4506, 4507, 4508, 4509, 4510, 4600, 8192}) {
            House h = ready(text(4, 2, ""), NONE, SealedTest.random(4, 2)).put(4, new byte[many]);
            int due = letters(fixed + letters(many)) + rest;
            size("u of " + many, h, h.x.encrypt(1, 4, 2, 2, 3, 4, -1), due);
            size("v of " + many, h, h.x.encrypt(1, 4, 2, 2, 3, -1, 4), due);
        }
        for (int many : new int[] {5900, 6000, 6050, 6060, 6061, 6062, 6063, 6064, 6065, 6066, 6067, 6068, 6069, 6070, 6080, 6140}) {
            House h = ready(Keys.oct(new byte[16], ",\"kid\":\"" + "k".repeat(many) + "\""), NONE, new byte[12]);
            int due = letters(head(0, 2).length() + 9 + many) + rest;
            size("a kid of " + many, h, h.x.encrypt(1, 0, 2, 2, 3, -1, -1), due);
        }
        House h = ready(text(4, 2, ""), NONE, SealedTest.random(4, 2)).put(4, new byte[8192]);
        Check.refused(h, "u and v", () -> h.x.encrypt(1, 4, 2, 2, 3, 4, 4), House.LARGE);
    }

    private static void size(String what, House h, int answer, int due) {
        Check.same(what, answer, due > 8192 ? House.LARGE : due);
        if (answer > 0) {
            h.x.keep(5);
            Check.same("decrypt, " + what, h.x.decrypt(5), 1);
        }
    }

    private static void large(int alg, int way) {
        Check.promise(33, "LARGE: OUT would have more than 8192 bytes");
        int sealedKey = alg == 0 || alg == 4 ? 0 : alg == 3 ? 128 : Maker.KEY[way] + 8;
        int head = (alg < 4 ? head(alg, way) : HEADS[alg - 4][way]).length();
        int rest = 4 + letters(head) + letters(sealedKey) + letters(Maker.FIRST[way]) + letters(Maker.MARK[way]);
        int room = (8192 - rest) * 3 / 4;
        int most = way < 2 ? room / 16 * 16 - 1 : room;
        House h = ready(text(alg, way, ""), new byte[most], SealedTest.random(alg, way));
        Check.same(most + " by " + alg + ", " + way, h.x.encrypt(1, alg, way, 2, 3, -1, -1), rest + letters(way < 2 ? most + 1 : most));
        h.x.keep(5);
        Check.same("decrypt", h.x.decrypt(5), 1);
        Check.same("the payload", h.x.size(-1), most);
        h.mark();
        for (int many : new int[] {most + 1, 8192}) {
            h.put(2, new byte[many]);
            Check.refused(h, many + " by " + alg + ", " + way, () -> h.x.encrypt(1, alg, way, 2, 3, -1, -1), House.LARGE);
        }
    }

    private static boolean has(int set, int i) {
        return (set >> i & 1) == 1;
    }

    /** Every set of refusals at once: the first one is answered. */
    private static void firstRefusalOfEncrypt() {
        Check.promise(33, "the first refusal that fits");
        int[] order = {House.BAD, House.KEY, House.RANDOM, House.LARGE};
        for (int alg = 0; alg < 6; alg++) {
            for (int set = 1; set < 16; set++) {
                int wanted = alg;
                byte[] random = SealedTest.random(alg, 0);
                House h = ready(text(alg, 0, has(set, 1) ? ",\"use\":\"sig\"" : ""), new byte[has(set, 3) ? 8192 : 1], has(set, 2) ? Arrays.copyOf(random, random.length - 1) : random);
                for (int bad = 0; bad < (has(set, 0) ? 3 : 1); bad++) {
                    int enc = has(set, 0) && bad == 0 ? 4 : 0;
                    int payload = has(set, 0) && bad == 1 ? 8 : 2;
                    int key = has(set, 0) && bad == 2 ? 2 : 1;
                    Check.refused(h, "set " + set + " by " + alg, () -> h.x.encrypt(key, wanted, enc, payload, 3, -1, -1), order[Integer.numberOfTrailingZeros(set)]);
                }
                if (alg >= 4 && has(set, 2)) {
                    int u = has(set, 0) ? 8 : -1;
                    h.put(3, new byte[200]);
                    Check.refused(h, "set " + set + ", a fresh secret of 0", () -> h.x.encrypt(1, wanted, 0, 2, 3, u, -1), order[Integer.numberOfTrailingZeros(set)]);
                }
            }
        }
    }

    private static void decrypt(House h, String token, int due) {
        h.put(5, token);
        String what = "decrypt " + (token.length() > 400 ? token.substring(0, 400) + " ..." : token);
        if (due < 0) {
            Check.refused(h, what, () -> h.x.decrypt(5), due);
        } else {
            Check.same(what, h.x.decrypt(5), due);
        }
    }

    private static void decryptRows() {
        Check.promise(34, "BAD");
        House h = ready(0, 2);
        for (int r : NO_ROWS) {
            Check.refused(h, "decrypt of row " + r, () -> h.x.decrypt(r), House.BAD);
        }
        for (int r : new int[] {0, 7}) {
            h.x.encrypt(1, 0, 2, 2, 3, -1, -1);
            h.x.keep(r);
            Check.same("decrypt of row " + r, h.x.decrypt(r), 1);
            Check.same("the payload is OUT", h.out(), PAYLOAD);
        }
    }

    private static void forms() throws Exception {
        Check.promise(34, "FORM: it has not just four points");
        House h = ready(0, 2);
        String right = SealedTest.token(0, 2, head(0, 2), null, null, PAYLOAD);
        decrypt(h, right, 1);
        h.mark();
        for (String token : new String[] {"", "A", ".", "..", "...", ".....", right.replace(".", ""), right.replaceFirst("\\.", ""), right + ".", "." + right, right.substring(0, right.lastIndexOf('.')), ".".repeat(8192)}) {
            decrypt(h, token, House.FORM);
        }
        Check.promise(34, "parts of no bytes");
        decrypt(h, "....", House.TEXT);
        decrypt(h, House.letters(head(0, 2)) + "....", House.WRONG);
    }

    private static void parts() throws Exception {
        Check.promise(34, "PART: some part's letters are none");
        House h = ready(1, 2);
        String right = SealedTest.token(1, 2, head(1, 2), null, null, PAYLOAD);
        for (int part = 0; part < 5; part++) {
            for (String wrong : new String[] {"A", "AB", "AAB", "AAAAA", "=", "AA=", " ", "+", "\0", "\u00ff"}) {
                String[] parts = right.split("\\.");
                parts[part] = wrong;
                decrypt(h, String.join(".", parts), House.PART);
            }
            String[] parts = right.split("\\.");
            parts[part] += "!";
            decrypt(h, String.join(".", parts), House.PART);
        }
        decrypt(h, right, 1);
    }

    /** A head for which KEY is due if it is right, as there is no key that may be used. */
    private static void head(String head, int due) {
        decrypt(House.lived(), House.letters(House.bytes(head)) + "....", due);
    }

    private static void headTexts() {
        String start = "{\"alg\":\"dir\",\"enc\":\"A128GCM\"";
        Check.promise(34, "TEXT: the head is a text");
        for (String text : new String[] {"", " ", "{", start, start + "}}", start + ",}", start + ",\"alg\":\"dir\"}", start + ",\"\\u0065nc\":1}", "\u00ff"}) {
            head(text, House.TEXT);
        }
        head(start + ",\"x\":" + "[".repeat(39) + "]".repeat(39) + "}", House.KEY);
        head(start + ",\"x\":" + "[".repeat(40) + "]".repeat(40) + "}", House.TEXT);
        head(start + ",\"x\":[" + "0,".repeat(595) + "0]}", House.KEY);
        head(start + ",\"x\":[" + "0,".repeat(596) + "0]}", House.TEXT);
        Check.promise(34, "HEAD: of an object");
        for (String text : new String[] {"[]", "null", "0", "\"dir\"", "[" + start + "}]"}) {
            head(text, House.HEAD);
        }
    }

    private static void headMembers() {
        String alg = "\"alg\":\"dir\"";
        String enc = "\"enc\":\"A128GCM\"";
        Check.promise(34, "HEAD: alg and enc are there");
        for (String members : new String[] {"", alg, enc, "\"ALG\":\"dir\"," + enc, alg + ",\"Enc\":\"A128GCM\"", "\"x\":{" + alg + "}," + enc}) {
            head("{" + members + "}", House.HEAD);
        }
        head("{" + enc + "," + alg + "}", House.KEY);
        for (String value : new String[] {"null", "0", "true", "[\"dir\"]", "{}"}) {
            Check.promise(34, "HEAD: alg and enc are strings");
            head("{\"alg\":" + value + "," + enc + "}", House.HEAD);
            head("{" + alg + ",\"enc\":" + value + "}", House.HEAD);
            Check.promise(34, "HEAD: kid as in part 5");
            head("{" + alg + "," + enc + ",\"kid\":" + value + "}", House.HEAD);
            Check.promise(34, "HEAD: there is no member zip");
            head("{" + alg + "," + enc + ",\"zip\":" + value + "}", House.HEAD);
        }
        head("{" + alg + "," + enc + ",\"zip\":\"DEF\"}", House.HEAD);
        head("{" + alg + "," + enc + ",\"zip\":\"\"}", House.HEAD);
        head("{" + alg + "," + enc + ",\"ZIP\":\"DEF\",\"x\":{\"zip\":1},\"kid\":\"\"}", House.KEY);
    }

    private static void headCrit() {
        String start = "{\"alg\":\"dir\",\"enc\":\"A128GCM\",\"b64\":true,\"crit\":";
        Check.promise(34, "HEAD: crit as in part 5");
        for (String crit : new String[] {"null", "0", "\"b64\"", "{}", "[]", "[null]", "[0]", "[\"b64\",0]", "[[\"b64\"]]", "[\"b64\",\"b64\"]", "[\"x\",\"y\",\"\\u0078\"]", "[\"\",\"\"]"}) {
            head(start + crit + "}", House.HEAD);
        }
        Check.promise(34, "NAMES: there is no crit");
        for (String crit : new String[] {"[\"b64\"]", "[\"\"]", "[\"x\"]", "[\"alg\",\"enc\"]"}) {
            head(start + crit + "}", House.NAMES);
        }
        head("{\"alg\":\"dir\",\"enc\":\"A128GCM\",\"b64\":false}", House.KEY);
    }

    private static void headAlgs() {
        Check.promise(34, "ALG: alg and enc are listed");
        for (String alg : new String[] {"", "Dir", "di", "dirr", "none", "HS256", "A192KW", "RSA-OAEP", "RSA1_5", "ECDH-ES+A256KW", "ECDH-ES+A128K", "A128GCM"}) {
            head("{\"alg\":\"" + alg + "\",\"enc\":\"A128GCM\"}", House.ALG);
        }
        for (String enc : new String[] {"", "a128gcm", "A128GC", "A128GCMM", "A192GCM", "A192CBC-HS384", "A128CBC-HS512", "dir"}) {
            head("{\"alg\":\"dir\",\"enc\":\"" + enc + "\"}", House.ALG);
            head("{\"alg\":\"ECDH-ES\",\"enc\":\"" + enc + "\"}", House.ALG);
        }
        for (int alg = 0; alg < 6; alg++) {
            for (int way = 0; way < 4; way++) {
                head(alg < 4 ? head(alg, way) : HEADS[alg - 4][way], House.KEY);
            }
        }
    }

    private static String x(BigInteger number) {
        return House.letters(NumberTest.fixed(number, 32));
    }

    private static String agreed(String members) {
        return "{\"alg\":\"ECDH-ES\",\"enc\":\"A128GCM\"" + members + "}";
    }

    private static void epk() {
        String point = ",\"x\":\"" + x(FRESH_POINT[0]) + "\",\"y\":\"" + x(FRESH_POINT[1]) + "\"";
        Check.promise(34, "HEAD: epk is there, an object");
        head(agreed(""), House.HEAD);
        for (String epk : new String[] {"null", "0", "\"EC\"", "[]", "{}", "[{\"kty\":\"EC\",\"crv\":\"P-256\"" + point + "}]"}) {
            head(agreed(",\"epk\":" + epk), House.HEAD);
        }
        head(agreed(",\"epk\":{\"kty\":\"EC\",\"crv\":\"P-256\"" + point + "}"), House.KEY);
        Check.promise(34, "HEAD: with kty EC, crv P-256");
        for (String bad : new String[] {"\"crv\":\"P-256\"", "\"kty\":\"EC\"", "\"kty\":\"ec\",\"crv\":\"P-256\"", "\"kty\":\"RSA\",\"crv\":\"P-256\"", "\"kty\":0,\"crv\":\"P-256\"", "\"kty\":\"EC\",\"crv\":\"P-384\"",
            "\"kty\":\"EC\",\"crv\":\"p-256\"", "\"kty\":\"EC\",\"crv\":256", "\"kty\":\"\",\"crv\":\"\""}) {
            head(agreed(",\"epk\":{" + bad + point + "}"), House.HEAD);
        }
        Check.promise(34, "a head without epk, behind one that has it");
        House h = House.lived();
        decrypt(h, House.letters(agreed(",\"epk\":{\"kty\":\"EC\",\"crv\":\"P-256\"" + point + "}")) + "....", House.KEY);
        decrypt(h, House.letters(agreed("")) + "....", House.HEAD);
        decrypt(h, House.letters(agreed(",\"epk\":{\"kty\":\"EC\",\"crv\":\"P-256\",\"x\":\"\",\"y\":\"\"}")) + "....", House.HEAD);
        Check.promise(34, "what stands outside of epk is not in it");
        head(agreed(",\"kty\":\"EC\",\"crv\":\"P-256\"" + point + ",\"epk\":{}"), House.HEAD);
        Check.promise(34, "epk of another alg means nothing");
        head("{\"alg\":\"dir\",\"enc\":\"A128GCM\",\"epk\":0,\"apu\":0,\"apv\":\"A\"}", House.KEY);
    }

    private static void point(String x, String y, int due) {
        for (String alg : new String[] {"ECDH-ES", "ECDH-ES+A128KW"}) {
            head("{\"epk\":{\"kty\":\"EC\",\"crv\":\"P-256\",\"x\":" + x + ",\"y\":" + y + "},\"alg\":\"" + alg + "\",\"enc\":\"A128GCM\"}", due);
        }
    }

    private static void epkPoints() {
        String x = "\"" + x(FRESH_POINT[0]) + "\"";
        String y = "\"" + x(FRESH_POINT[1]) + "\"";
        point(x, y, House.KEY);
        Check.promise(34, "HEAD: x, y are letters for bytes");
        for (String bad : new String[] {"null", "0", "[]", "\"A\"", "\"AB\"", "\"AA=\"", "\"=" + y.substring(1)}) {
            point(bad, y, House.HEAD);
            point(x, bad, House.HEAD);
        }
        Check.promise(34, "HEAD: x, y of 32 bytes");
        for (int many : new int[] {0, 1, 31, 33, 64}) {
            point("\"" + House.letters(NumberTest.fixed(FRESH_POINT[0], many)) + "\"", y, House.HEAD);
            point(x, "\"" + House.letters(NumberTest.fixed(FRESH_POINT[1], many)) + "\"", House.HEAD);
        }
        Check.promise(34, "HEAD: of a point of the curve");
        point(y, x, House.HEAD);
        point(x, x, House.HEAD);
        point("\"" + x(BigInteger.ZERO) + "\"", "\"" + x(BigInteger.ZERO) + "\"", House.HEAD);
        point(x, "\"" + x(FRESH_POINT[1].add(ONE)) + "\"", House.HEAD);
        point(x, "\"" + x(P.subtract(FRESH_POINT[1])) + "\"", House.KEY);
        BigInteger low = new BigInteger("d7325d7646cd60d80a92738ceb345f844cffaf35841022cab176f692de8de1d7", 16);
        point("\"" + x(low) + "\"", "\"" + x(BigInteger.valueOf(5)) + "\"", House.KEY);
        point("\"" + x(low) + "\"", "\"" + x(P.add(BigInteger.valueOf(5))) + "\"", House.HEAD);
    }

    private static void parties() throws Exception {
        String epk = ",\"epk\":{\"kty\":\"EC\",\"crv\":\"P-256\",\"x\":\"" + x(FRESH_POINT[0]) + "\",\"y\":\"" + x(FRESH_POINT[1]) + "\"}";
        for (String name : new String[] {"apu", "apv"}) {
            Check.promise(34, "HEAD: apu, apv, if there, are letters for bytes");
            for (String bad : new String[] {"null", "0", "[]", "{}", "\"A\"", "\"AB\"", "\"AAB\"", "\"AAAAA\"", "\"AA=\"", "\"+\""}) {
                head(agreed(epk + ",\"" + name + "\":" + bad), House.HEAD);
            }
            head(agreed(epk + ",\"" + name + "\":\"\""), House.KEY);
            head(agreed(epk + ",\"" + name + "\":\"AA\""), House.KEY);
            head(agreed(epk + ",\"" + name + "\":\"" + "A".repeat(5900) + "\""), House.KEY);
        }
        Check.promise(34, "they are u and v; without them these have no bytes");
        byte[] u = {1};
        byte[] v = {2, 3};
        Object[][] cases = {{"", NONE, NONE}, {",\"apu\":\"\",\"apv\":\"\"", NONE, NONE}, {",\"apu\":\"AQ\"", u, NONE}, {",\"apv\":\"AgM\"", NONE, v}, {",\"apv\":\"AgM\",\"apu\":\"AQ\"", u, v}};
        for (int alg = 4; alg < 6; alg++) {
            for (Object[] c : cases) {
                for (Object[] other : cases) {
                    String head = "{\"alg\":\"" + Maker.SEALED[alg] + "\",\"enc\":\"A128GCM\"" + epk + c[0] + "}";
                    String token = SealedTest.token(alg, 2, head, (byte[]) other[1], (byte[]) other[2], PAYLOAD);
                    boolean same = Arrays.equals((byte[]) c[1], (byte[]) other[1]) && Arrays.equals((byte[]) c[2], (byte[]) other[2]);
                    decrypt(ready(alg, 2), token, same ? 1 : House.WRONG);
                }
            }
        }
    }

    private static void kids() throws Exception {
        Check.promise(34, "KEY: no key may be used, of those whose kid says what the head's kid says");
        String[] heads = {"", ",\"kid\":\"\"", ",\"kid\":\"a\"", ",\"kid\":\"\\u0061\"", ",\"kid\":\"A\"", ",\"kid\":\"aa\"", ",\"kid\":\"nobody's\""};
        String[] keys = {"", ",\"kid\":\"\"", ",\"kid\":\"a\""};
        int no = House.KEY;
        int[][] due = {{1, 1, 1}, {no, 1, no}, {no, no, 1}, {no, no, 1}, {no, no, no}, {no, no, no}, {no, no, no}};
        for (int head = 0; head < heads.length; head++) {
            for (int key = 0; key < keys.length; key++) {
                String token = SealedTest.token(0, 2, SealedTest.head(0, 2, heads[head], null, null), null, null, PAYLOAD);
                decrypt(ready(text(0, 2, keys[key]), NONE, NONE), token, due[head][key]);
            }
        }
        Check.promise(34, "KEY: of all, if the head has none; there are none at all, or it was dropped");
        String token = SealedTest.token(0, 2, head(0, 2), null, null, PAYLOAD);
        decrypt(new House(), token, House.KEY);
        House h = ready(0, 2);
        h.x.drop(1);
        decrypt(h, token, House.KEY);
    }

    private static void firstKey() throws Exception {
        Check.promise(34, "the first one by its number with which it is right");
        House h = House.lived();
        h.x.drop(0);
        for (int k = 0; k < 16; k++) {
            h.put(1, k == 0 || k == 3 || k == 15 ? text(0, 2, "") : k == 1 ? text(0, 2, ",\"use\":\"sig\"") : Keys.oct(new byte[16], ""));
            Check.same("key", h.x.key(1), k);
        }
        String token = SealedTest.token(0, 2, head(0, 2), null, null, PAYLOAD);
        decrypt(h, token, 0);
        h.x.drop(0);
        decrypt(h, token, 3);
        Check.same("the payload is OUT", h.out(), PAYLOAD);
        h.x.drop(3);
        decrypt(h, token, 15);
        h.x.drop(15);
        h.mark();
        Check.promise(34, "WRONG: with none of these it is right");
        decrypt(h, token, House.WRONG);
    }

    private static void keysOfAKind() {
        Check.promise(34, "the first one that is right among keys of its kind");
        for (int alg = 1; alg < 6; alg++) {
            House h = ready(alg, 3);
            h.put(1, alg == 3 ? Keys.rsa(1024, 3, 34).text(true, "") : alg > 3 ? Keys.ec(N.subtract(BigInteger.TWO), true, "") : Keys.oct(new byte[16 * alg], ""));
            Check.same("key", h.x.key(1), 2);
            for (int key = 1; key <= 2; key++) {
                h.x.encrypt(key, alg, 3, 2, 3, -1, -1);
                h.x.keep(4 + key);
                h.x.poke(3, 5, 7);
            }
            for (int key : new int[] {1, 2, 1}) {
                Check.same("decrypt by " + alg, h.x.decrypt(4 + key), key);
                Check.same("the payload is OUT", h.out(), PAYLOAD);
            }
        }
    }

    private static String replaced(String token, int part, byte[] bytes) {
        String[] parts = token.split("\\.", -1);
        parts[part] = House.letters(bytes);
        return String.join(".", parts);
    }

    private static void sealedKeys() throws Exception {
        for (int alg = 0; alg < 6; alg++) {
            String token = SealedTest.token(alg, 2, alg < 4 ? head(alg, 2) : HEADS[alg - 4][2], null, null, PAYLOAD);
            byte[] right = House.unletters(token.split("\\.", -1)[1]);
            House h = ready(alg, 2);
            decrypt(h, token, 1);
            h.mark();
            if (alg == 0 || alg == 4) {
                Check.promise(34, "WRONG: of dir and ECDH-ES: the sealed key has bytes");
                for (int many : new int[] {1, 16, 24, 128, 129, 3000}) {
                    decrypt(h, replaced(token, 1, new byte[many]), House.WRONG);
                }
            } else {
                Check.promise(34, "WRONG: the content key does not come");
                for (int many : new int[] {0, 1, 8, 16, right.length - 1, right.length + 1, right.length + 8, 128, 129, 136, 3000}) {
                    byte[] wrong = Arrays.copyOf(right, many);
                    if (many == right.length) {
                        wrong[0] ^= 1;
                    }
                    decrypt(h, replaced(token, 1, wrong), House.WRONG);
                }
                for (int i : new int[] {0, 7, 8, right.length - 1}) {
                    byte[] wrong = right.clone();
                    wrong[i] ^= 1;
                    decrypt(h, replaced(token, 1, wrong), House.WRONG);
                }
                decrypt(h, replaced(token, 1, House.join(new byte[1], right)), House.WRONG);
            }
        }
    }

    /** Content keys of other sizes than the way wants, wrapped or sealed rightly. */
    private static void contentKeys() throws Exception {
        Check.promise(34, "WRONG: the content key has not as many bytes as the way wants");
        for (int way = 0; way < 4; way++) {
            byte[] content = Keys.bytes(Maker.KEY[way], 34);
            for (int many = 16; many <= 64; many += 8) {
                byte[] other = Arrays.copyOf(content, many);
                int due = many == Maker.KEY[way] ? 1 : House.WRONG;
                decrypt(ready(1, way), Maker.token(head(1, way), Maker.wrap(Keys.bytes(16, 51), other), new byte[Maker.FIRST[way]], way, content, PAYLOAD), due);
                decrypt(ready(2, way), Maker.token(head(2, way), Maker.wrap(Keys.bytes(32, 52), other), new byte[Maker.FIRST[way]], way, content, PAYLOAD), due);
            }
            if (way != 1) {
                for (int many : new int[] {0, 1, 15, 16, 17, 31, 32, 33, 61, 62}) {
                    byte[] sealed = Maker.oaep(SealedTest.RSA, Arrays.copyOf(content, many), new byte[32]);
                    decrypt(ready(3, way), Maker.token(head(3, way), sealed, new byte[Maker.FIRST[way]], way, content, PAYLOAD), many == Maker.KEY[way] ? 1 : House.WRONG);
                }
            }
        }
    }

    private static void beginningsAndMarks() throws Exception {
        for (int way = 0; way < 4; way++) {
            String token = SealedTest.token(0, way, head(0, way), null, null, PAYLOAD);
            String[] parts = token.split("\\.", -1);
            byte[] first = House.unletters(parts[2]);
            byte[] mark = House.unletters(parts[4]);
            House h = ready(0, way);
            decrypt(h, token, 1);
            h.mark();
            Check.promise(34, "WRONG: the beginning has not as many bytes as the way wants");
            for (int many : new int[] {0, 1, 11, 12, 13, 15, 16, 17, 32, 500}) {
                if (many != first.length) {
                    decrypt(h, replaced(token, 2, Arrays.copyOf(first, many)), House.WRONG);
                }
            }
            Check.promise(34, "WRONG: the mark has not as many bytes as the way wants");
            for (int many : new int[] {0, 1, 12, 15, 16, 17, 31, 32, 33, 500}) {
                if (many != mark.length) {
                    decrypt(h, replaced(token, 4, Arrays.copyOf(mark, many)), House.WRONG);
                }
            }
            Check.promise(34, "WRONG: bytes may not go from the content to the mark");
            byte[] content = House.unletters(parts[3]);
            int cut = content.length - 1;
            decrypt(h, replaced(replaced(token, 3, Arrays.copyOf(content, cut)), 4, House.join(new byte[] {content[cut]}, mark)), House.WRONG);
            decrypt(h, replaced(replaced(token, 3, House.join(content, new byte[] {mark[0]})), 4, Arrays.copyOfRange(mark, 1, mark.length)), House.WRONG);
        }
    }

    private static void contents() throws Exception {
        for (int way = 0; way < 4; way++) {
            for (int many : new int[] {0, 1, 15, 16, 17, 32}) {
                Check.promise(34, "the content is opened");
                String token = SealedTest.token(0, way, head(0, way), null, null, Keys.bytes(many, 5));
                House h = ready(0, way);
                decrypt(h, token, 1);
                Check.same("the payload is OUT", h.out(), Keys.bytes(many, 5));
                Check.promise(34, "WRONG: the content is not opened");
                h.mark();
                byte[] content = House.unletters(token.split("\\.", -1)[3]);
                decrypt(h, replaced(token, 3, Arrays.copyOf(content, content.length + 1)), House.WRONG);
                decrypt(h, replaced(token, 3, Arrays.copyOf(content, content.length + 16)), House.WRONG);
                if (content.length > 0) {
                    decrypt(h, replaced(token, 3, NONE), House.WRONG);
                    decrypt(h, replaced(token, 3, Arrays.copyOf(content, content.length - 1)), House.WRONG);
                    content[content.length - 1] ^= 1;
                    decrypt(h, replaced(token, 3, content), House.WRONG);
                }
            }
            Check.promise(34, "what the letters of HEAD are is what the mark is of");
            String[] parts = SealedTest.token(0, way, head(0, way), null, null, PAYLOAD).split("\\.", -1);
            parts[0] = House.letters(head(0, way) + " ");
            decrypt(ready(0, way), String.join(".", parts), House.WRONG);
        }
    }

    private static final int[] DECRYPT_ORDER = {House.FORM, House.PART, House.TEXT, House.HEAD, House.NAMES, House.ALG, House.HEAD, House.KEY, House.WRONG};

    /** Every set of refusals at once, PART in each part in turn: the first one is answered. */
    private static void firstRefusalOfDecrypt() throws Exception {
        Check.promise(34, "the first reason that fits");
        for (int set = 0; set < 1 << DECRYPT_ORDER.length; set++) {
            String head = HEADS[0][2].substring(1, HEADS[0][2].length() - 1);
            head = has(set, 6) ? head.replace(new String[] {"P-256", "epk", "\"EC\""}[set % 3], set % 3 == 2 ? "0" : "?") : head;
            head = has(set, 5) ? head.replace(set % 2 == 0 ? "ECDH-ES" : "A128GCM", "none") : head;
            head = has(set, 4) ? "\"crit\":[\"exp\"]," + head : head;
            head = has(set, 3) ? (set % 2 == 0 ? "\"zip\":\"DEF\"," : "\"kid\":7,") + head : head;
            head = "{" + head + (has(set, 2) ? "" : "}");
            String[] parts = SealedTest.token(4, 2, head, null, null, PAYLOAD).split("\\.", -1);
            if (has(set, 8)) {
                parts[4] = House.letters(new byte[16]);
            }
            for (int part = 0; part < (has(set, 1) ? 5 : 1); part++) {
                String[] those = parts.clone();
                those[part] += has(set, 1) ? "*" : "";
                String token = String.join(".", those) + (has(set, 0) ? "." : "");
                decrypt(ready(text(4, 2, has(set, 7) ? ",\"use\":\"sig\"" : ""), NONE, NONE), token, set == 0 ? 1 : DECRYPT_ORDER[Integer.numberOfTrailingZeros(set)]);
            }
        }
    }
}
