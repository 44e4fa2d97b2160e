import java.math.BigInteger;
import java.util.Arrays;

/** Promises 31 and 32: each sentence that names a boundary. */
public final class EdgesOfSignedTest {
    private static final int[] NO_ROWS = {-1, -2, 8, Integer.MIN_VALUE, Integer.MAX_VALUE};
    private static final BigInteger ONE = BigInteger.ONE, TWO = BigInteger.TWO, N = NumberTest.N;
    private static final BigInteger D = new BigInteger("31c2e7a1b2c3d4e5f60718293a4b5c6d7e8f90a1b2c3d4e5f60718293a4b5c6d", 16);
    private static final BigInteger K = new BigInteger("3234567890abcdef1234567890abcdef1234567890abcdef1234567890abcdef", 16);
    private static final byte[] OCT = Keys.bytes(64, 31);
    private static final Keys RSA = Keys.rsa(1024, 65537, 31);
    private static final String[] TEXTS = {Keys.oct(OCT, ""), Keys.oct(OCT, ""), RSA.text(true, ""), RSA.text(true, ""), Keys.ec(D, true, "")};
    private static final String AS_IT_IS = "{\"alg\":\"HS256\",\"b64\":false,\"crit\":[\"b64\"]}";

    public static void main(String[] args) throws Exception {
        badNumbers();
        randomIsNotLookedAt();
        kindsUsesAlgs();
        leastBytes();
        secretThere();
        headTexts();
        headMembers();
        headCrit();
        headNames();
        headAlgs();
        writtenHeads();
        anotherAlg();
        points();
        salts();
        curveNumbers();
        signaturesThatBeginWith0();
        large();
        firstRefusalOfSign();
        verifyRows();
        forms();
        parts();
        kids();
        firstKey();
        wrongSignatures();
        wrongFrames();
        wrongCurveSignatures();
        curveSignaturesThatWrapAround();
        keysThatAreTheBase();
        payloads();
        firstRefusalOfVerify();
        Check.end(31, 32);
    }

    /** A key is number 1, the payload is in row 2, what is drawn in row 4. */
    private static House ready(String text, byte[] payload) {
        House h = House.lived().put(1, text).put(2, payload).put(4, NumberTest.fixed(K, 32));
        Check.same("key", h.x.key(1), 1);
        return h;
    }

    private static House ready(int alg) {
        return ready(TEXTS[alg], House.bytes("p"));
    }

    private static void badNumbers() {
        Check.promise(31, "BAD: no such key");
        House h = ready(0);
        for (int k : new int[] {-1, -2, 2, 15, 16, Integer.MIN_VALUE, Integer.MAX_VALUE}) {
            Check.refused(h, "key " + k, () -> h.x.sign(k, 0, -1, 2, 4), House.BAD);
        }
        Check.promise(31, "BAD: alg is not 0 .. 4");
        for (int alg : new int[] {-1, 5, 6, Integer.MIN_VALUE, Integer.MAX_VALUE}) {
            Check.refused(h, "alg " + alg, () -> h.x.sign(1, alg, -1, 2, 4), House.BAD);
        }
        Check.promise(31, "BAD: head is no row, nor NONE");
        for (int r : new int[] {-2, 8, Integer.MIN_VALUE, Integer.MAX_VALUE}) {
            Check.refused(h, "head " + r, () -> h.x.sign(1, 0, r, 2, 4), House.BAD);
        }
        Check.promise(31, "BAD: payload is no row");
        for (int r : NO_ROWS) {
            Check.refused(h, "payload " + r, () -> h.x.sign(1, 0, -1, r, 4), House.BAD);
        }
        Check.promise(31, "BAD: random is no row, of PS256 and ES256, and before KEY");
        for (int alg = 3; alg < 5; alg++) {
            int wanted = alg;
            House right = ready(alg);
            for (int r : NO_ROWS) {
                Check.refused(right, "random " + r, () -> right.x.sign(1, wanted, -1, 2, r), House.BAD);
                Check.refused(h, "random " + r + " with a key that may not", () -> h.x.sign(1, wanted, -1, 2, r), House.BAD);
            }
        }
    }

    private static void randomIsNotLookedAt() {
        Check.promise(31, "random is looked at for PS256 and ES256 alone: any number may stand there else");
        for (int alg = 0; alg < 3; alg++) {
            House h = ready(alg);
            int due = h.x.sign(1, alg, -1, 2, 4);
            String token = h.outText();
            for (int r : new int[] {-1, -2, 7, 8, Integer.MIN_VALUE, Integer.MAX_VALUE}) {
                Check.same("random " + r, h.x.sign(1, alg, -1, 2, r), due);
                Check.that("the same token", h.outText().equals(token));
            }
        }
    }

    /** Whether a key may be used: KEY comes from sign, and from verify, which else says WRONG to a signature of no bytes. */
    private static void may(String text, int alg, boolean sign, boolean verify) {
        House h = ready(text, House.bytes("p"));
        h.put(3, House.letters("{\"alg\":\"" + Maker.SIGNED[alg] + "\"}") + "..");
        Check.refused(h, "verify by " + alg + " with " + text, () -> h.x.verify(3), verify ? House.WRONG : House.KEY);
        if (sign) {
            Check.that("sign by " + alg + " with " + text, h.x.sign(1, alg, -1, 2, 4) > 0);
        } else {
            Check.refused(h, "sign by " + alg + " with " + text, () -> h.x.sign(1, alg, -1, 2, 4), House.KEY);
        }
    }

    private static String more(int alg, String members) {
        return TEXTS[alg].substring(0, TEXTS[alg].length() - 1) + members + "}";
    }

    private static void kindsUsesAlgs() {
        String[] kinds = {TEXTS[0], TEXTS[2], TEXTS[4]};
        int[] wanted = {0, 0, 1, 1, 2};
        for (int alg = 0; alg < 5; alg++) {
            Check.promise(31, "a key may be used if it is of its kind");
            for (int kind = 0; kind < 3; kind++) {
                may(kinds[kind], alg, kind == wanted[alg], kind == wanted[alg]);
            }
            Check.promise(31, "its use is not there or sig");
            may(more(alg, ",\"use\":\"sig\""), alg, true, true);
            for (String use : new String[] {"enc", "", "si", "sigg", "SIG"}) {
                may(more(alg, ",\"use\":\"" + use + "\""), alg, false, false);
            }
            Check.promise(31, "its alg is not there or this one");
            for (int other = 0; other < 5; other++) {
                may(more(alg, ",\"alg\":\"" + Maker.SIGNED[other] + "\""), alg, other == alg, other == alg);
            }
            for (String other : new String[] {"", "none", "hs256", "HS2566", "dir", "ECDH-ES"}) {
                may(more(alg, ",\"alg\":\"" + other + "\""), alg, false, false);
            }
        }
    }

    private static void leastBytes() {
        Check.promise(31, "for HS256 it has 32 bytes at least, for HS512 64");
        for (int many : new int[] {1, 31, 32, 33, 63, 64, 65, 128}) {
            may(Keys.oct(new byte[many], ""), 0, many >= 32, many >= 32);
            may(Keys.oct(new byte[many], ""), 1, many >= 64, many >= 64);
        }
        Check.promise(31, "for PS256 n has 67");
        for (int bits : new int[] {512, 520, 521, 528, 529, 536, 537}) {
            String text = Keys.rsa(bits, 3, bits).text(true, "");
            may(text, 3, bits > 528, bits > 528);
            may(text, 2, true, true);
        }
    }

    private static void secretThere() {
        Check.promise(31, "to sign with RSA or EC: d is there");
        may(RSA.text(false, ""), 2, false, true);
        may(RSA.text(false, ""), 3, false, true);
        may(Keys.ec(D, false, ""), 4, false, true);
    }

    /** A head of HS256: 0 if it is right, else its reason, as sign and verify answer it. */
    private static void head(String head, int due) throws Exception {
        House h = ready(0).put(3, head);
        String input = House.letters(House.bytes(head)) + "." + House.letters("p");
        h.put(5, input + "." + House.letters(Maker.code(0, OCT, House.bytes(input))));
        if (due == 0) {
            Check.that("sign " + head, h.x.sign(1, 0, 3, 2, -1) > 0);
            int verified = h.x.verify(5);
            Check.that("verify " + head + " answered " + verified, verified == 1 || verified == House.KEY);
        } else {
            Check.refused(h, "sign " + head, () -> h.x.sign(1, 0, 3, 2, -1), due);
            Check.refused(h, "verify " + head, () -> h.x.verify(5), due);
        }
    }

    private static void headTexts() throws Exception {
        Check.promise(31, "TEXT: the head is a text");
        for (String text : new String[] {"", " ", "{", "{\"alg\":\"HS256\"", "{\"alg\":\"HS256\"}}", "{\"alg\":\"HS256\",}", "{\"alg\":\"HS256\",\"alg\":\"HS256\"}", "{\"alg\":\"HS256\",\"\\u0061lg\":1}", "\u00ff"}) {
            head(text, House.TEXT);
        }
        head("{\"alg\":\"HS256\",\"x\":" + "[".repeat(39) + "]".repeat(39) + "}", 0);
        head("{\"alg\":\"HS256\",\"x\":" + "[".repeat(40) + "]".repeat(40) + "}", House.TEXT);
        head("{\"alg\":\"HS256\",\"x\":[" + "0,".repeat(596) + "0]}", 0);
        head("{\"alg\":\"HS256\",\"x\":[" + "0,".repeat(597) + "0]}", House.TEXT);
        head("{\"alg\":\"HS256\",\"crit\":[\"b64\"],\"b64\":true,\"x\":[" + "0,".repeat(593) + "0]}", 0);
        head("{\"alg\":\"HS256\",\"crit\":[\"b64\"],\"b64\":true,\"x\":[" + "0,".repeat(594) + "0]}", House.TEXT);
        StringBuilder names = new StringBuilder();
        for (int i = 0; i < 596; i++) {
            names.append(",\"").append(i).append('"');
        }
        head("{\"alg\":\"HS256\",\"crit\":[\"b64\"" + names + "]}", House.NAMES);
        head("{\"alg\":\"HS256\",\"crit\":[\"595\"" + names + "]}", House.HEAD);
        Check.promise(31, "HEAD: of an object");
        for (String text : new String[] {"[]", "null", "0", "\"HS256\"", "[{\"alg\":\"HS256\"}]"}) {
            head(text, House.HEAD);
        }
    }

    private static void headMembers() throws Exception {
        Check.promise(31, "HEAD: alg is there, and a string");
        for (String members : new String[] {"", "\"ALG\":\"HS256\"", "\"x\":{\"alg\":\"HS256\"}", "\"alg\":null", "\"alg\":0", "\"alg\":true", "\"alg\":[\"HS256\"]", "\"alg\":{}"}) {
            head("{" + members + "}", House.HEAD);
        }
        Check.promise(31, "HEAD: kid, if it is there, is a string");
        for (String kid : new String[] {"null", "0", "false", "[]", "{}", "[\"a\"]"}) {
            head("{\"alg\":\"HS256\",\"kid\":" + kid + "}", House.HEAD);
        }
        head("{\"alg\":\"HS256\",\"kid\":\"\"}", 0);
        head("{\"kid\":\"nobody's\",\"alg\":\"HS256\"}", 0);
    }

    private static void headCrit() throws Exception {
        String start = "{\"alg\":\"HS256\",\"b64\":true,\"crit\":";
        Check.promise(31, "HEAD: crit, if it is there, is an array");
        for (String crit : new String[] {"null", "0", "true", "\"b64\"", "{}", "{\"b64\":\"b64\"}"}) {
            head(start + crit + "}", House.HEAD);
        }
        Check.promise(31, "HEAD: of strings, one at least");
        for (String crit : new String[] {"[]", "[null]", "[0]", "[[\"b64\"]]", "[{}]", "[\"b64\",0]", "[true,\"b64\"]", "[\"x\",\"y\",[]]"}) {
            head(start + crit + "}", House.HEAD);
        }
        Check.promise(31, "HEAD: no two the same");
        for (String crit : new String[] {"[\"b64\",\"b64\"]", "[\"\",\"\"]", "[\"x\",\"b64\",\"\\u0078\"]", "[\"a\",\"b\",\"c\",\"d\",\"b\"]"}) {
            head(start + crit + "}", House.HEAD);
        }
        head(start + "[\"b64\"]}", 0);
        head(start + "[ \"b\\u00364\" ]}", 0);
    }

    private static void headNames() throws Exception {
        Check.promise(31, "NAMES: crit has no name but b64");
        for (String crit : new String[] {"[\"\"]", "[\"b6\"]", "[\"b644\"]", "[\"B64\"]", "[\"exp\"]", "[\"alg\"]", "[\"b64\",\"\"]", "[\"exp\",\"b64\"]", "[\"a\",\"b\",\"c\"]"}) {
            head("{\"alg\":\"HS256\",\"exp\":1,\"b64\":true,\"crit\":" + crit + "}", House.NAMES);
        }
        Check.promise(31, "NAMES: if it has that, b64 is there, and true or false");
        head("{\"alg\":\"HS256\",\"crit\":[\"b64\"]}", House.NAMES);
        for (String b64 : new String[] {"null", "0", "1", "\"true\"", "\"\"", "[false]", "{}"}) {
            head("{\"alg\":\"HS256\",\"crit\":[\"b64\"],\"b64\":" + b64 + "}", House.NAMES);
        }
        head("{\"alg\":\"HS256\",\"crit\":[\"b64\"],\"b64\":true}", 0);
        Check.promise(31, "b64 means nothing without crit");
        for (String b64 : new String[] {"null", "0", "\"\"", "[]", "true", "false"}) {
            head("{\"alg\":\"HS256\",\"b64\":" + b64 + "}", 0);
        }
    }

    private static void headAlgs() throws Exception {
        Check.promise(31, "ALG: alg is a listed one");
        for (String alg : new String[] {"", "none", "HS25", "HS2566", "hs256", "HS384", "RS512", "PS384", "ES512", "ES256K", "dir", "A128KW", "RSA-OAEP-256", "ECDH-ES", "HS256\\u0000"}) {
            head("{\"alg\":\"" + alg + "\"}", House.ALG);
        }
        head("{\"alg\":\"\\u0048S256\"}", 0);
    }

    private static void writtenHeads() throws Exception {
        Check.promise(31, "with NONE it is written: an object with alg, and kid if the key has one");
        String[][] kids = {{"", ""}, {",\"kid\":\"\"", ",\"kid\":\"\""}, {",\"kid\":\"\\u001f\\u0020\\/\\u0022\"", ",\"kid\":\"\\u001f /\\\"\""}};
        for (int alg = 0; alg < 5; alg++) {
            for (String[] kid : kids) {
                House h = ready(more(alg, kid[0]), new byte[0]);
                String due = House.letters("{\"alg\":\"" + Maker.SIGNED[alg] + "\"" + kid[1] + "}") + "..";
                Check.that("sign", h.x.sign(1, alg, -1, 2, 4) > 0);
                Check.that("the head of " + h.outText(), h.outText().startsWith(due));
                h.x.keep(5);
                Check.same("verify", h.x.verify(5), 1);
                Check.same("a payload of no bytes", h.x.size(-1), 0);
            }
        }
        Check.promise(31, "the head is that in a row, as it stands");
        String head = " {\"x\" : [ ],\n\"alg\":\"H\\u0053256\"}\t";
        House h = ready(0).put(3, head);
        h.x.sign(1, 0, 3, 2, -1);
        Check.that("its letters", h.outText().startsWith(House.letters(head) + "." + House.letters("p") + "."));
        Check.promise(31, "one row as head and as payload");
        h.x.sign(1, 0, 3, 3, -1);
        String input = House.letters(head) + "." + House.letters(head);
        Check.that("the token", h.outText().equals(input + "." + House.letters(Maker.code(0, OCT, House.bytes(input)))));
    }

    private static void anotherAlg() {
        Check.promise(31, "WRONG: its alg is another one");
        for (int alg = 0; alg < 5; alg++) {
            for (int other = 0; other < 5; other++) {
                int wanted = alg;
                House h = ready(alg).put(3, "{\"alg\":\"" + Maker.SIGNED[other] + "\"}");
                if (other == alg) {
                    Check.that("its alg is this one", h.x.sign(1, alg, 3, 2, 4) > 0);
                } else {
                    Check.refused(h, other + " is not " + alg, () -> h.x.sign(1, wanted, 3, 2, 4), House.WRONG);
                }
            }
        }
    }

    private static void points() throws Exception {
        Check.promise(31, "POINT: the payload stands as it is, and has a point");
        for (String payload : new String[] {".", ".a", "a.", "a.b", "..", "x".repeat(300) + "."}) {
            House h = ready(TEXTS[0], House.bytes(payload)).put(3, AS_IT_IS);
            Check.refused(h, "sign " + payload, () -> h.x.sign(1, 0, 3, 2, -1), House.POINT);
            Check.promise(31, "a point in a payload that does not stand as it is");
            Check.that("b64 is true", h.put(3, AS_IT_IS.replace("false", "true")).x.sign(1, 0, 3, 2, -1) > 0);
            Check.that("b64 is not in crit", h.put(3, "{\"alg\":\"HS256\",\"b64\":false}").x.sign(1, 0, 3, 2, -1) > 0);
            Check.that("the head is written", h.x.sign(1, 0, -1, 2, -1) > 0);
            h.x.keep(5);
            Check.same("verify", h.x.verify(5), 1);
            Check.that("the payload", h.outText().equals(payload));
            Check.promise(31, "POINT: the payload stands as it is, and has a point");
        }
        Check.promise(31, "a payload that does not stand as it is, behind one that does");
        for (String before : new String[] {"ab", "a.b"}) {
            House h = ready(TEXTS[0], House.bytes(before)).put(3, AS_IT_IS).put(5, "a.b");
            h.x.sign(1, 0, 3, 2, -1);
            Check.same("sign", h.x.sign(1, 0, -1, 5, -1), 20 + 1 + 4 + 1 + 43);
            h.x.keep(6);
            Check.same("verify", h.x.verify(6), 1);
            Check.that("the payload", h.outText().equals("a.b"));
        }
        Check.promise(31, "the payload stands in the token as it is, and is signed so");
        for (String payload : new String[] {"", "-", "/", "A", "=", "\0\u00ff\n"}) {
            House h = ready(TEXTS[0], House.bytes(payload)).put(3, AS_IT_IS);
            String input = House.letters(AS_IT_IS) + "." + payload;
            String due = input + "." + House.letters(Maker.code(0, OCT, House.bytes(input)));
            Check.same("sign", h.x.sign(1, 0, 3, 2, -1), due.length());
            Check.that("the token", h.outText().equals(due));
            h.x.keep(5);
            Check.same("verify", h.x.verify(5), 1);
            Check.that("the payload", h.outText().equals(payload));
        }
    }

    private static void salts() throws Exception {
        House h = ready(3);
        String input = House.letters("{\"alg\":\"PS256\"}") + "." + House.letters("p");
        Check.promise(31, "RANDOM: the row has too few bytes (PS256)");
        for (int many : new int[] {0, 1, 31}) {
            h.put(4, Keys.bytes(many, 1));
            Check.refused(h, "a salt of " + many, () -> h.x.sign(1, 3, -1, 2, 4), House.RANDOM);
        }
        Check.promise(31, "the salt is its first 32 bytes, whatever they are");
        byte[] full = new byte[33];
        Arrays.fill(full, (byte) 255);
        for (byte[] salt : new byte[][] {new byte[32], new byte[33], full, Keys.bytes(32, 2), Keys.bytes(8192, 2)}) {
            h.put(4, salt);
            String due = input + "." + House.letters(Maker.signRsa(3, RSA, Arrays.copyOf(salt, 32), House.bytes(input)));
            Check.same("sign", h.x.sign(1, 3, -1, 2, 4), due.length());
            Check.that("the token", h.outText().equals(due));
        }
    }

    private static void curveNumbers() throws Exception {
        House h = ready(4);
        String input = House.letters("{\"alg\":\"ES256\"}") + "." + House.letters("p");
        Check.promise(31, "RANDOM: the row has too few bytes (ES256)");
        for (int many : new int[] {0, 1, 31}) {
            h.put(4, Keys.bytes(many, 1));
            Check.refused(h, "k of " + many, () -> h.x.sign(1, 4, -1, 2, 4), House.RANDOM);
        }
        Check.promise(31, "RANDOM: k is not 1 .. the order less 1");
        for (BigInteger k : new BigInteger[] {BigInteger.ZERO, N, N.add(ONE), ONE.shiftLeft(256).subtract(ONE)}) {
            h.put(4, House.join(NumberTest.fixed(k, 32), new byte[] {1}));
            Check.refused(h, "k is " + k, () -> h.x.sign(1, 4, -1, 2, 4), House.RANDOM);
        }
        Check.promise(31, "k is 1 .. the order less 1, the first 32 bytes");
        for (BigInteger k : new BigInteger[] {ONE, TWO, N.subtract(TWO), N.subtract(ONE)}) {
            h.put(4, House.join(NumberTest.fixed(k, 32), new byte[] {-1}));
            String due = input + "." + House.letters(Maker.signEc(D, k, House.bytes(input)));
            Check.same("k is " + k, h.x.sign(1, 4, -1, 2, 4), due.length());
            Check.that("the token", h.outText().equals(due));
        }
        Check.promise(31, "RANDOM: s is 0");
        BigInteger r = NumberTest.times(K, NumberTest.G)[0].mod(N);
        BigInteger z = new BigInteger(1, Maker.hash(House.bytes(input)));
        for (int s = 0; s < 3; s++) {
            BigInteger d = BigInteger.valueOf(s).multiply(K).subtract(z).multiply(r.modInverse(N)).mod(N);
            House small = ready(Keys.ec(d, true, ""), House.bytes("p"));
            if (s == 0) {
                Check.refused(small, "s is 0", () -> small.x.sign(1, 4, -1, 2, 4), House.RANDOM);
            } else {
                String due = input + "." + House.letters(NumberTest.point(new BigInteger[] {r, BigInteger.valueOf(s)}));
                Check.same("s is " + s, small.x.sign(1, 4, -1, 2, 4), due.length());
                Check.that("the token", small.outText().equals(due));
            }
        }
    }

    private static void signaturesThatBeginWith0() throws Exception {
        Check.promise(31, "r that begins with 0 has 32 bytes");
        BigInteger k = NumberTest.leadingZero(NumberTest.G, 0);
        String input = House.letters("{\"alg\":\"ES256\"}") + "." + House.letters("p");
        House h = ready(4).put(4, NumberTest.fixed(k, 32));
        String due = input + "." + House.letters(Maker.signEc(D, k, House.bytes(input)));
        Check.same("sign", h.x.sign(1, 4, -1, 2, 4), due.length());
        Check.that("the token", h.outText().equals(due));
        h.x.keep(5);
        Check.same("verify", h.x.verify(5), 1);
        Check.promise(31, "a signature of RSA that begins with 0 has as many bytes as n");
        byte[] signature = {1};
        String payload = "";
        while (signature[0] != 0) {
            payload += "p";
            input = House.letters("{\"alg\":\"RS256\"}") + "." + House.letters(payload);
            signature = Maker.signRsa(2, RSA, null, House.bytes(input));
        }
        h = ready(RSA.text(true, ""), House.bytes(payload));
        Check.same("sign", h.x.sign(1, 2, -1, 2, -1), input.length() + 1 + letters(128));
        Check.that("the token", h.outText().equals(input + "." + House.letters(signature)));
        h.x.keep(5);
        Check.same("verify", h.x.verify(5), 1);
        h.mark();
        verify(h, input + "." + House.letters(Arrays.copyOfRange(signature, 1, 128)), House.WRONG);
    }

    private static int letters(int bytes) {
        return House.letters(new byte[bytes]).length();
    }

    private static void large() {
        Check.promise(31, "LARGE: OUT would have more than 8192 bytes");
        int room = 8192 - House.letters(AS_IT_IS).length() - 2 - 43;
        for (int many : new int[] {room - 1, room}) {
            House h = ready(TEXTS[0], new byte[many]).put(3, AS_IT_IS);
            Check.same("as it is", h.x.sign(1, 0, 3, 2, -1), 8192 - room + many);
            h.x.keep(5);
            Check.same("verify of a token that fills a row", h.x.verify(5), 1);
            Check.same("its payload", h.x.size(-1), many);
        }
        for (int many : new int[] {room + 1, room + 2, 8192}) {
            House h = ready(TEXTS[0], new byte[many]).put(3, AS_IT_IS);
            Check.refused(h, "as it is, " + many, () -> h.x.sign(1, 0, 3, 2, -1), House.LARGE);
        }
        int[] signatures = {32, 64, 128, 128, 64};
        for (int alg = 0; alg < 5; alg++) {
            int rest = letters(15) + 2 + letters(signatures[alg]);
            int most = (8192 - rest) * 3 / 4;
            int wanted = alg;
            House h = ready(TEXTS[alg], new byte[most]);
            Check.same("by " + alg + ", " + most, h.x.sign(1, alg, -1, 2, 4), rest + letters(most));
            h.mark().put(2, new byte[most + 1]);
            Check.refused(h, "by " + alg + ", " + (most + 1), () -> h.x.sign(1, wanted, -1, 2, 4), House.LARGE);
            h.put(2, new byte[8192]);
            Check.refused(h, "by " + alg + ", 8192", () -> h.x.sign(1, wanted, -1, 2, 4), House.LARGE);
        }
        Check.promise(31, "LARGE: of a head, or of a kid, that is long");
        int longest = (8192 - 45) * 3 / 4;
        for (int many : new int[] {longest, longest + 1, 8192}) {
            House h = ready(TEXTS[0], new byte[0]).put(3, "{\"alg\":\"HS256\"" + " ".repeat(many - 15) + "}");
            large(h, 3, many, longest);
            if (many < 8000) {
                large(ready(Keys.oct(new byte[32], ",\"kid\":\"" + "k".repeat(many - 24) + "\""), new byte[0]), -1, many, longest);
            }
        }
    }

    private static void large(House h, int head, int many, int longest) {
        if (many <= longest) {
            Check.same("a head of " + many, h.x.sign(1, 0, head, 2, -1), letters(many) + 45);
        } else {
            Check.refused(h, "a head of " + many, () -> h.x.sign(1, 0, head, 2, -1), House.LARGE);
        }
    }

    private static final int[] SIGN_ORDER = {House.BAD, House.KEY, House.TEXT, House.HEAD, House.NAMES, House.ALG, House.WRONG, House.POINT, House.RANDOM, House.LARGE};

    private static boolean has(int set, int i) {
        return (set >> i & 1) == 1;
    }

    /** Every set of refusals at once: the first one is answered. */
    private static void firstRefusalOfSign() {
        Check.promise(31, "the first refusal that fits");
        for (int set = 1; set < 1 << SIGN_ORDER.length; set++) {
            String head = "{\"alg\":\"" + (has(set, 5) ? "none" : has(set, 6) ? "HS256" : "ES256") + "\",\"b64\":false,\"crit\":[\"b64\"" + (has(set, 4) ? ",\"x\"" : "") + "]"
                + (has(set, 3) ? ",\"kid\":0" : "") + "}" + (has(set, 2) ? "}" : "");
            byte[] payload = has(set, 9) ? new byte[8192] : new byte[5];
            payload[payload.length - 1] = (byte) (has(set, 7) ? '.' : 'a');
            House h = ready(more(4, has(set, 1) ? ",\"use\":\"enc\"" : ""), payload).put(3, head).put(4, NumberTest.fixed(K, has(set, 8) ? 31 : 32));
            int row = has(set, 0) ? 8 : 2;
            Check.refused(h, "set " + set, () -> h.x.sign(1, 4, 3, row, 4), SIGN_ORDER[Integer.numberOfTrailingZeros(set)]);
        }
    }

    private static void verifyRows() {
        Check.promise(32, "BAD");
        House h = ready(0);
        for (int r : NO_ROWS) {
            Check.refused(h, "verify of row " + r, () -> h.x.verify(r), House.BAD);
        }
        for (int r : new int[] {0, 7}) {
            h.x.sign(1, 0, -1, 2, -1);
            h.x.keep(r);
            Check.same("verify of row " + r, h.x.verify(r), 1);
        }
    }

    private static void verify(House h, String token, int due) {
        h.put(5, token);
        if (due < 0) {
            Check.refused(h, "verify " + token, () -> h.x.verify(5), due);
        } else {
            Check.same("verify " + token, h.x.verify(5), due);
        }
    }

    private static String token(String head, String payload) throws Exception {
        String input = House.letters(head) + "." + House.letters(payload);
        return input + "." + House.letters(Maker.code(0, OCT, House.bytes(input)));
    }

    private static void forms() throws Exception {
        Check.promise(32, "FORM: it has not just two points");
        House h = ready(0);
        String right = token("{\"alg\":\"HS256\"}", "p");
        verify(h, right, 1);
        h.mark();
        for (String token : new String[] {"", "A", ".", right.replace(".", ""), right.replaceFirst("\\.", ""), right + ".", "." + right, right.replaceFirst("\\.", ".."), "...", "....", ".".repeat(8192)}) {
            verify(h, token, House.FORM);
        }
        Check.promise(32, "parts of no bytes");
        verify(h, "..", House.TEXT);
        verify(h, House.letters("{\"alg\":\"HS256\"}") + "..", House.WRONG);
    }

    private static void parts() throws Exception {
        House h = ready(0);
        String[] right = token("{\"alg\":\"HS256\"}", "p").split("\\.");
        for (String wrong : new String[] {"A", "AB", "AAB", "AAAAA", "=", "AA=", "AA==", " ", "+", "/", "\0", "\u00ff"}) {
            Check.promise(32, "PART: HEAD's letters are none for bytes");
            verify(h, wrong + "." + right[1] + "." + right[2], House.PART);
            verify(h, right[0] + "!." + right[1] + "." + right[2], House.PART);
            Check.promise(32, "PART: the payload's letters are none");
            verify(h, right[0] + "." + wrong + "." + right[2], House.PART);
            Check.promise(32, "PART: the signature's letters are none");
            verify(h, right[0] + "." + right[1] + "." + wrong, House.PART);
            Check.promise(32, "PART: of a payload that stands as it is, its letters are not asked, the signature's are");
            String input = House.letters(AS_IT_IS) + "." + wrong;
            verify(h, input + "." + wrong, House.PART);
            verify(h, input + ".", House.WRONG);
            verify(h, input + "." + House.letters(Maker.code(0, OCT, House.bytes(input))), 1);
            h.mark();
        }
    }

    private static void kids() throws Exception {
        Check.promise(32, "KEY: no key may be used, of those whose kid says what the head's kid says");
        String[] heads = {"", ",\"kid\":\"\"", ",\"kid\":\"a\"", ",\"kid\":\"\\u0061\"", ",\"kid\":\"A\"", ",\"kid\":\"aa\"", ",\"kid\":\"a\\u0000\"", ",\"kid\":\"nobody's\""};
        String[] keys = {"", ",\"kid\":\"\"", ",\"kid\":\"a\""};
        int[][] due = {{1, 1, 1}, {House.KEY, 1, House.KEY}, {House.KEY, House.KEY, 1}, {House.KEY, House.KEY, 1}, {House.KEY, House.KEY, House.KEY}, {House.KEY, House.KEY, House.KEY},
            {House.KEY, House.KEY, House.KEY}, {House.KEY, House.KEY, House.KEY}};
        for (int head = 0; head < heads.length; head++) {
            for (int key = 0; key < keys.length; key++) {
                verify(ready(Keys.oct(OCT, keys[key]), new byte[0]), token("{\"alg\":\"HS256\"" + heads[head] + "}", "p"), due[head][key]);
            }
        }
        Check.promise(32, "KEY: of all, if the head has none; there are none at all");
        verify(new House(), token("{\"alg\":\"HS256\"}", "p"), House.KEY);
        verify(House.lived(), token("{\"alg\":\"HS256\"}", "p"), House.KEY);
        Check.promise(32, "a key that was dropped may not be used");
        House h = ready(0);
        h.x.drop(1);
        verify(h, token("{\"alg\":\"HS256\"}", "p"), House.KEY);
    }

    private static void firstKey() throws Exception {
        Check.promise(32, "the first one by its number with which it is right");
        House h = House.lived();
        h.x.drop(0);
        String other = Keys.oct(new byte[64], "");
        for (int k = 0; k < 16; k++) {
            h.put(1, k == 0 || k == 3 || k == 15 ? TEXTS[0] : k == 1 ? Keys.oct(OCT, ",\"use\":\"enc\"") : other);
            Check.same("key", h.x.key(1), k);
        }
        String token = token("{\"alg\":\"HS256\"}", "p");
        verify(h, token, 0);
        h.x.drop(0);
        verify(h, token, 3);
        h.x.drop(3);
        verify(h, token, 15);
        h.x.drop(15);
        h.mark();
        Check.promise(32, "WRONG: with none of these it is right");
        verify(h, token, House.WRONG);
        h.put(1, TEXTS[0]);
        h.x.key(1);
        verify(h, token, 0);
        Check.promise(32, "the first one that is right among keys of its kind");
        for (int alg = 2; alg < 5; alg++) {
            House many = ready(alg);
            many.put(1, alg == 4 ? Keys.ec(K, true, "") : Keys.rsa(1024, 3, 32).text(true, ""));
            Check.same("key", many.x.key(1), 2);
            for (int key : new int[] {1, 2, 1}) {
                many.x.sign(key, alg, -1, 2, 4);
                many.x.keep(5);
                Check.same("verify by " + alg, many.x.verify(5), key);
            }
        }
        Check.promise(32, "one that has not the head's kid does not count");
        h.put(1, Keys.oct(OCT, ",\"kid\":\"a\""));
        Check.same("key", h.x.key(1), 3);
        verify(h, token("{\"alg\":\"HS256\",\"kid\":\"a\"}", "p"), 3);
    }

    private static void wrongSignatures() throws Exception {
        for (int alg = 0; alg < 5; alg++) {
            House h = ready(alg);
            h.x.sign(1, alg, -1, 2, 4);
            String token = h.outText();
            String input = token.substring(0, token.lastIndexOf('.') + 1);
            byte[] right = House.unletters(token.substring(input.length()));
            Check.promise(32, "its signature is right");
            verify(h, token, 1);
            Check.that("the payload is OUT", h.outText().equals("p"));
            Check.promise(32, "WRONG: a signature of fewer or more bytes, or of others");
            h.mark();
            for (byte[] wrong : new byte[][] {{}, Arrays.copyOf(right, 1), Arrays.copyOf(right, right.length - 1), Arrays.copyOf(right, right.length + 1), House.join(new byte[1], right), House.join(right, right), new byte[right.length]}) {
                verify(h, input + House.letters(wrong), House.WRONG);
            }
            for (int i : new int[] {0, 1, right.length / 2, right.length - 1}) {
                byte[] wrong = right.clone();
                wrong[i] ^= 1;
                verify(h, input + House.letters(wrong), House.WRONG);
            }
        }
        Check.promise(32, "WRONG: a signature of RSA that is not below n");
        Keys low = Keys.rsa(1017, 3, 9);
        for (int alg = 2; alg < 4; alg++) {
            House h = ready(low.text(true, ""), House.bytes("p"));
            h.x.sign(1, alg, -1, 2, 4);
            String token = h.outText();
            String input = token.substring(0, token.lastIndexOf('.') + 1);
            BigInteger s = new BigInteger(1, House.unletters(token.substring(input.length())));
            verify(h, input + House.letters(NumberTest.fixed(s, 128)), 1);
            h.mark();
            verify(h, input + House.letters(NumberTest.fixed(s.add(low.n), 128)), House.WRONG);
            verify(h, input + House.letters(NumberTest.fixed(low.n, 128)), House.WRONG);
        }
    }

    /** The number that PS256 signs (RFC 8017, 9.1.1) for a modulus of so many bits. */
    private static BigInteger frame(int bits, String input, byte[] salt) throws Exception {
        int many = (bits - 1 + 7) / 8;
        byte[] hash = Maker.hash(House.join(new byte[8], Maker.hash(House.bytes(input)), salt));
        byte[] db = House.join(new byte[many - 66], new byte[] {1}, salt);
        byte[] mask = Maker.mask(hash, db.length);
        for (int i = 0; i < db.length; i++) {
            db[i] ^= mask[i];
        }
        db[0] &= (byte) (255 >> 8 * many - (bits - 1));
        return new BigInteger(1, House.join(db, hash, new byte[] {(byte) 0xbc}));
    }

    /** A salt is looked for with which the frame is still below n when a bit is set in front of it. */
    private static void wrongFrames() throws Exception {
        String input = House.letters("{\"alg\":\"PS256\"}") + "." + House.letters("p");
        for (int bits = 1017; bits <= 1024; bits++) {
            Keys k = Keys.rsa(bits, 65537, 600 + bits);
            int seed = 0;
            while (frame(bits, input, Keys.bytes(32, seed)).setBit(bits - 1).compareTo(k.n) >= 0) {
                seed++;
            }
            BigInteger right = frame(bits, input, Keys.bytes(32, seed));
            House h = ready(k.text(false, ""), new byte[0]);
            Check.promise(32, "the bits in front of a frame of PS256 are 0");
            verify(h, input + "." + House.letters(NumberTest.fixed(right.modPow(k.d, k.n), 128)), 1);
            h.mark();
            Check.promise(32, "WRONG: they are not");
            verify(h, input + "." + House.letters(NumberTest.fixed(right.setBit(bits - 1).modPow(k.d, k.n), 128)), House.WRONG);
        }
    }

    private static void wrongCurveSignatures() throws Exception {
        Check.promise(32, "WRONG: r and s of ES256 are 1 .. the order less 1");
        String input = House.letters("{\"alg\":\"ES256\"}") + "." + House.letters("p");
        byte[] right = Maker.signEc(D, K, House.bytes(input));
        BigInteger r = new BigInteger(1, Arrays.copyOf(right, 32));
        BigInteger s = new BigInteger(1, Arrays.copyOfRange(right, 32, 64));
        BigInteger zero = BigInteger.ZERO;
        House h = ready(Keys.ec(D, false, ""), new byte[0]);
        BigInteger[][] wrong = {{zero, s}, {r, zero}, {zero, zero}, {N, s}, {r, N}, {N, N}, {r.add(ONE), s}, {r.subtract(ONE), s}, {r, s.add(ONE)}, {N.subtract(r), s}, {s, r}, {N.subtract(ONE), s}, {ONE, s}, {r, ONE}};
        for (BigInteger[] w : wrong) {
            verify(h, input + "." + House.letters(NumberTest.point(w)), House.WRONG);
        }
        verify(h, input + "." + House.letters(right), 1);
        verify(h, input + "." + House.letters(NumberTest.point(new BigInteger[] {r, N.subtract(s)})), 1);
        Check.promise(32, "WRONG: r or s that are more by the order");
        BigInteger z = new BigInteger(1, Maker.hash(House.bytes(input)));
        for (int little = 1; little < 4; little++) {
            BigInteger d = BigInteger.valueOf(little).multiply(K).subtract(z).multiply(r.modInverse(N)).mod(N);
            House other = ready(Keys.ec(d, false, ""), new byte[0]);
            verify(other, input + "." + House.letters(NumberTest.point(new BigInteger[] {r, BigInteger.valueOf(little)})), 1);
            other.mark();
            verify(other, input + "." + House.letters(NumberTest.point(new BigInteger[] {r, N.add(BigInteger.valueOf(little))})), House.WRONG);
        }
        Check.promise(32, "WRONG: the sum of points is no point");
        BigInteger d = z.negate().multiply(r.modInverse(N)).mod(N);
        verify(ready(Keys.ec(d, false, ""), new byte[0]), input + "." + House.letters(right), House.WRONG);
    }

    /** The key of which a signature is right, whose point has an x beyond the order: r is that, less the order. */
    private static void curveSignaturesThatWrapAround() throws Exception {
        Check.promise(32, "r is the point's x modulo the order");
        String input = House.letters("{\"alg\":\"ES256\"}") + "." + House.letters("p");
        BigInteger z = new BigInteger(1, Maker.hash(House.bytes(input)));
        BigInteger r = ONE;
        while (NumberTest.root(N.add(r)) == null) {
            r = r.add(ONE);
        }
        BigInteger[] point = {N.add(r), NumberTest.root(N.add(r))};
        BigInteger s = K;
        BigInteger[] rest = NumberTest.times(N.subtract(z.multiply(s.modInverse(N)).mod(N)), NumberTest.G);
        BigInteger[] key = NumberTest.times(s.multiply(r.modInverse(N)).mod(N), NumberTest.add(point, rest));
        House h = ready(Keys.ecText(NumberTest.fixed(key[0], 32), NumberTest.fixed(key[1], 32), null, ""), new byte[0]);
        verify(h, input + "." + House.letters(NumberTest.point(new BigInteger[] {r, s})), 1);
        h.mark();
        Check.promise(32, "WRONG: r is more by the order");
        verify(h, input + "." + House.letters(NumberTest.point(new BigInteger[] {N.add(r), s})), House.WRONG);
    }

    /** The points that are added up are the same ones, or opposite ones, now and then. */
    private static void keysThatAreTheBase() throws Exception {
        Check.promise(32, "keys that are the curve's base, or opposite to it");
        for (BigInteger d : new BigInteger[] {ONE, N.subtract(ONE)}) {
            House h = ready(Keys.ec(d, false, ""), new byte[0]);
            for (int k = 1; k <= 20; k++) {
                String input = House.letters("{\"alg\":\"ES256\"}") + "." + House.letters("p" + k);
                verify(h, input + "." + House.letters(Maker.signEc(d, K.add(BigInteger.valueOf(k)), House.bytes(input))), 1);
            }
        }
    }

    private static void payloads() throws Exception {
        Check.promise(32, "the payload is OUT, of no bytes too");
        for (String payload : new String[] {"", "\0", "{}", "x".repeat(1000)}) {
            House h = ready(0);
            verify(h, token("{\"alg\":\"HS256\"}", payload), 1);
            Check.that("the payload", h.outText().equals(payload));
        }
        Check.promise(32, "what the letters before the second point are is signed, not what they say");
        House h = ready(0);
        String input = House.letters("{\"alg\":\"HS256\"}") + "." + House.letters("p");
        String code = House.letters(Maker.code(0, OCT, House.bytes(input)));
        verify(h, input + "." + code, 1);
        h.mark();
        verify(h, House.letters("{\"alg\":\"HS256\" }") + "." + House.letters("p") + "." + code, House.WRONG);
    }

    private static final int[] VERIFY_ORDER = {House.FORM, House.PART, House.TEXT, House.HEAD, House.NAMES, House.ALG, House.PART, House.PART, House.KEY, House.WRONG};

    /** Every set of refusals at once: the first one is answered. */
    private static void firstRefusalOfVerify() throws Exception {
        Check.promise(32, "the first reason that fits");
        for (int set = 0; set < 1 << VERIFY_ORDER.length; set++) {
            String head = "{\"alg\":\"" + (has(set, 5) ? "none" : "HS256") + "\"" + (has(set, 4) ? ",\"crit\":[\"x\"]" : "") + (has(set, 3) ? ",\"x\":[\"kid\"],\"kid\":[\"kid\"]" : "") + "}" + (has(set, 2) ? "," : "");
            String input = House.letters(head) + (has(set, 1) ? "~" : "") + "." + House.letters("p") + (has(set, 6) ? "=" : "");
            byte[] code = Maker.code(0, OCT, House.bytes(input + (has(set, 9) ? "?" : "")));
            String token = input + "." + House.letters(code) + (has(set, 7) ? "*" : "") + (has(set, 0) ? "." : "");
            verify(ready(Keys.oct(OCT, has(set, 8) ? ",\"alg\":\"HS512\"" : ""), new byte[0]), token, set == 0 ? 1 : VERIFY_ORDER[Integer.numberOfTrailingZeros(set)]);
        }
    }
}
