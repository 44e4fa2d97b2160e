import java.math.BigInteger;
import java.security.MessageDigest;
import java.util.Arrays;

/** Promises 27 to 30. */
public final class KeyTest {
    private static final BigInteger ONE = BigInteger.ONE;

    public static void main(String[] args) throws Exception {
        reasons();
        octs();
        rsas();
        curves();
        numbers();
        toldOf();
        prints();
        oneAfterAnother();
        Check.end();
    }

    private static void key(String text, int due) {
        House h = new House().mark().put(0, text);
        Check.same("key " + text, h.x.key(0), due);
        Check.same("told", h.x.told(0, 0) == House.BAD ? 0 : 1, due == 0 ? 1 : 0);
        h.unmarked("key");
    }

    private static void reasons() {
        key("", -11);
        key("{", -11);
        key("{\"kty\":\"oct\",\"k\":\"AA\",\"k\":\"AA\"}", -11);
        key("{\"kty\":\"oct\",\"k\":\"AA\",\"x\":1,\"x\":1}", -11);
        key("{\"kty\":\"oct\",\"k\":\"AA\"} x", -11);
        for (String text : new String[] {"[]", "1", "null", "\"kty\"", "[{\"kty\":\"oct\",\"k\":\"AA\"}]"}) {
            key(text, -12);
        }
        for (String kty : new String[] {"\"x\":1", "\"kty\":1", "\"kty\":null", "\"kty\":\"OCT\"", "\"kty\":\"rsa\"", "\"kty\":\"\"", "\"kty\":\"OKP\"", "\"kty\":[\"oct\"]", "\"a\":{\"kty\":\"oct\"}", "\"KTY\":\"oct\""}) {
            key("{" + kty + ",\"k\":\"AA\"}", -13);
            key("{" + kty + ",\"kid\":1,\"k\":1}", -13);
        }
        for (String name : new String[] {"kid", "use", "alg"}) {
            for (String value : new String[] {"1", "null", "true", "[]", "{}", "[\"sig\"]"}) {
                key("{\"kty\":\"oct\",\"k\":\"AA\",\"" + name + "\":" + value + "}", -14);
                key("{\"" + name + "\":" + value + ",\"kty\":\"oct\",\"k\":1}", -14);
                key("{\"kty\":\"RSA\",\"" + name + "\":" + value + "}", -14);
                key("{\"kty\":\"EC\",\"" + name + "\":" + value + "}", -14);
            }
            key("{\"kty\":\"oct\",\"k\":\"AA\",\"" + name + "\":\"\"}", 0);
        }
        key("{\"\\u006bty\":\"o\\u0063t\",\"k\":\"\\u0041A\",\"key_ops\":1,\"ext\":{\"kid\":1},\"x5c\":[1]}", 0);
    }

    private static void octs() {
        key("{\"kty\":\"oct\"}", -15);
        for (String k : new String[] {"1", "null", "[]", "\"A\"", "\"AB\"", "\"AA=\"", "\"AA==\"", "\"+AAA\"", "\"A A\"", "\"AAAAA\""}) {
            key("{\"kty\":\"oct\",\"k\":" + k + "}", -15);
        }
        key("{\"kty\":\"oct\",\"k\":\"\"}", -16);
        key(Keys.oct(new byte[1], ""), 0);
        key(Keys.oct(new byte[128], ""), 0);
        key(Keys.oct(new byte[129], ""), -16);
        key(Keys.oct(new byte[5000], ""), -16);
        key(Keys.oct(new byte[16], ",\"d\":1,\"n\":2,\"e\":3,\"x\":4,\"y\":5,\"crv\":6"), 0);
    }

    private static void rsas() {
        Keys k = Keys.rsa(1024, 65537, 1);
        String n = Keys.letters(k.n);
        String e = "AQAB";
        key(k.text(true, ""), 0);
        key(k.text(false, ",\"crv\":1,\"k\":2,\"x\":3,\"p\":4"), 0);
        for (String wrong : new String[] {null, "1", "null", "{}", "\"A\"", "\"AB\"", "\"A=\"", "\"AQAB \""}) {
            String some = wrong == null ? "\"q\":1" : "\"%\":" + wrong;
            key("{\"kty\":\"RSA\"," + some.replace('%', 'n') + ",\"e\":\"AQAB\"}", -15);
            key("{\"kty\":\"RSA\"," + some.replace('%', 'e') + ",\"n\":\"" + n + "\"}", -15);
            if (wrong != null) {
                key("{\"kty\":\"RSA\",\"e\":\"AQAB\"," + some.replace('%', 'd') + ",\"n\":\"" + n + "\"}", -15);
                key("{\"kty\":\"RSA\",\"e\":\"Ag\"," + some.replace('%', 'd') + ",\"n\":\"AA\"}", -15);
            }
        }
        byte[] odd = new byte[200];
        Arrays.fill(odd, (byte) 255);
        int[] sizes = {0, 1, 2, 63, 64, 65, 127, 128, 129, 200};
        for (int many : sizes) {
            key(Keys.rsaText(House.letters(Arrays.copyOf(odd, many)), "Aw", null, ""), many >= 64 && many <= 128 ? 0 : -16);
        }
        byte[] some = Arrays.copyOf(odd, 64);
        some[63] = (byte) 254;
        key(Keys.rsaText(House.letters(some), "Aw", null, ""), -16);
        some[63] = 1;
        some[0] = 0;
        key(Keys.rsaText(House.letters(some), "Aw", null, ""), -16);
        key(Keys.rsaText(House.letters(House.join(new byte[1], Keys.plain(k.n))), e, null, ""), -16);
        some[0] = 1;
        key(Keys.rsaText(House.letters(some), "Aw", null, ""), 0);
        for (String bad : new String[] {"", "AA", "AQ", "Ag", "BA", "AAM", "AAAB"}) {
            key(Keys.rsaText(n, bad, null, ""), -16);
        }
        for (BigInteger good : new BigInteger[] {BigInteger.valueOf(3), BigInteger.valueOf(5), BigInteger.valueOf(255), BigInteger.valueOf(257), k.n.subtract(BigInteger.TWO)}) {
            key(Keys.rsaText(n, Keys.letters(good), null, ""), 0);
        }
        for (BigInteger bad : new BigInteger[] {k.n, k.n.add(BigInteger.TWO), k.n.subtract(ONE), k.n.shiftLeft(8).add(ONE)}) {
            key(Keys.rsaText(n, Keys.letters(bad), null, ""), -16);
        }
        BigInteger phi = k.e.multiply(k.d).subtract(ONE);
        for (BigInteger bad : new BigInteger[] {ONE, BigInteger.TWO, k.d.add(ONE), k.d.subtract(ONE), k.n, k.n.add(k.d), k.n.subtract(ONE), k.d.add(phi)}) {
            key(Keys.rsaText(n, e, Keys.letters(bad), ""), -16);
        }
        for (String bad : new String[] {"", "AA", "AAAA", House.letters(House.join(new byte[1], Keys.plain(k.d))), House.letters(new byte[128]), House.letters(odd)}) {
            key(Keys.rsaText(n, e, bad, ""), -16);
        }
        for (int bits : new int[] {505, 511, 512, 513, 529, 600, 777, 1017, 1023}) {
            key(Keys.rsa(bits, 17, bits).text(true, ""), 0);
        }
        // an exponent as long as n, and its d
        Keys small = Keys.rsa(512, 17, 4);
        key(Keys.rsaText(Keys.letters(small.n), Keys.letters(small.d), "EQ", ""), 0);
    }

    private static void curves() {
        BigInteger d = new BigInteger("123456789abcdef0123456789", 16);
        BigInteger[] p = NumberTest.times(d, NumberTest.G);
        byte[] x = NumberTest.fixed(p[0], 32);
        byte[] y = NumberTest.fixed(p[1], 32);
        byte[] secret = NumberTest.fixed(d, 32);
        key(Keys.ecText(x, y, secret, ""), 0);
        key(Keys.ecText(x, y, null, ",\"n\":1,\"e\":2,\"k\":3"), 0);
        String xy = ",\"x\":\"" + House.letters(x) + "\",\"y\":\"" + House.letters(y) + "\"";
        for (String crv : new String[] {"\"a\":1", "\"crv\":1", "\"crv\":null", "\"crv\":\"P-384\"", "\"crv\":\"p-256\"", "\"crv\":\"\""}) {
            key("{\"kty\":\"EC\"," + crv + xy + "}", -15);
        }
        for (String name : new String[] {"x", "y"}) {
            for (String wrong : new String[] {"\"q\":1", "\"%\":1", "\"%\":null", "\"%\":\"A\"", "\"%\":\"AB\"", "\"%\":\"A+\"", "\"%\":[]"}) {
                String rest = name.equals("x") ? "\"y\":\"" + House.letters(y) + "\"" : "\"x\":\"" + House.letters(x) + "\"";
                key("{\"kty\":\"EC\",\"crv\":\"P-256\"," + wrong.replace("%", name) + "," + rest + "}", -15);
            }
        }
        for (String wrong : new String[] {"1", "null", "\"A\"", "\"AB\"", "\"=\""}) {
            key("{\"kty\":\"EC\",\"crv\":\"P-256\",\"d\":" + wrong + xy + "}", -15);
            key("{\"kty\":\"EC\",\"crv\":\"P-256\",\"x\":\"\",\"y\":\"\",\"d\":" + wrong + "}", -15);
        }
        byte[] none = {};
        key(Keys.ecText(none, y, null, ""), -16);
        key(Keys.ecText(x, none, null, ""), -16);
        key(Keys.ecText(x, y, none, ""), -16);
        key(Keys.ecText(House.join(new byte[1], x), y, null, ""), -16);
        key(Keys.ecText(x, House.join(new byte[1], y), null, ""), -16);
        key(Keys.ecText(x, y, House.join(new byte[1], secret), ""), -16);
        key(Keys.ecText(x, y, Keys.plain(d), ""), -16);
        key(Keys.ecText(y, x, null, ""), -16);
        key(Keys.ecText(new byte[32], new byte[32], null, ""), -16);
        key(Keys.ecText(x, NumberTest.fixed(NumberTest.P.subtract(p[1]), 32), null, ""), 0);
        key(Keys.ecText(x, NumberTest.fixed(NumberTest.P.subtract(p[1]), 32), secret, ""), -16);
        key(Keys.ecText(x, NumberTest.fixed(NumberTest.P.subtract(p[1]), 32), NumberTest.fixed(NumberTest.N.subtract(d), 32), ""), 0);
        for (BigInteger bad : new BigInteger[] {BigInteger.ZERO, ONE, d.add(ONE), NumberTest.N, d.add(NumberTest.N)}) {
            key(Keys.ecText(x, y, NumberTest.fixed(bad, 32), ""), -16);
        }
        key(Keys.ec(ONE, true, ""), 0);
        key(Keys.ec(NumberTest.N.subtract(ONE), true, ""), 0);
    }

    private static void numbers() {
        House h = new House().put(0, Keys.oct(new byte[1], "")).put(1, "{\"kty\":\"oct\",\"k\":\"\"}").put(2, "{\"kty\":\"oct\"}");
        for (int i = 0; i < 16; i++) {
            Check.same("key", h.x.key(0), i);
        }
        Check.same("a 17th", h.x.key(0), -17);
        Check.same("no key at all", h.x.key(1), -16);
        Check.same("no key at all", h.x.key(2), -15);
        Check.same("no text", h.x.key(3), -11);
        Check.same("key", h.x.key(-1), House.BAD);
        Check.same("key", h.x.key(8), House.BAD);
        Check.same("drop", h.x.drop(9), 1);
        Check.same("drop", h.x.drop(9), House.BAD);
        Check.same("told", h.x.told(9, 0), House.BAD);
        Check.same("print", h.x.print(9), House.BAD);
        Check.same("drop", h.x.drop(4), 1);
        Check.same("a refused one takes no place", h.x.key(1), -16);
        h.put(0, Keys.oct(new byte[77], ""));
        Check.same("the least that is free", h.x.key(0), 4);
        Check.same("the least that is free", h.x.key(0), 9);
        Check.same("none is free", h.x.key(0), -17);
        Check.same("told", h.x.told(4, 1), 77);
        Check.same("told", h.x.told(5, 1), 1);
        for (int k : new int[] {-1, 16, Integer.MIN_VALUE, Integer.MAX_VALUE}) {
            Check.same("drop", h.x.drop(k), House.BAD);
            Check.same("told", h.x.told(k, 0), House.BAD);
            Check.same("print", h.x.print(k), House.BAD);
        }
    }

    private static void told(String text, int... due) {
        House h = new House().put(0, text);
        Check.same("key", h.x.key(0), 0);
        for (int what = 0; what < 6; what++) {
            Check.same("told " + what + " of " + text, h.x.told(0, what), due[what]);
        }
        Check.same("told", h.x.told(0, -1), House.BAD);
        Check.same("told", h.x.told(0, 6), House.BAD);
    }

    private static void toldOf() {
        told(Keys.oct(new byte[5], ""), 0, 5, 0, 0, -1, 0);
        told(Keys.oct(new byte[5], ",\"d\":\"AA\",\"use\":\"sig\",\"kid\":\"\",\"alg\":\"\""), 0, 5, 0, 1, 0, 1);
        told(Keys.oct(new byte[128], ",\"use\":\"enc\",\"kid\":\"a\\u20ac\\n\",\"alg\":\"HS256\""), 0, 128, 0, 2, 5, 1);
        told(Keys.rsa(600, 3, 2).text(false, ",\"use\":\"Sig\""), 1, 75, 0, 3, -1, 0);
        told(Keys.rsa(600, 3, 2).text(true, ",\"use\":\"\""), 1, 75, 1, 3, -1, 0);
        told(Keys.ec(BigInteger.TEN, false, ""), 2, 32, 0, 0, -1, 0);
        told(Keys.ec(BigInteger.TEN, true, ",\"alg\":\"what\""), 2, 32, 1, 0, -1, 1);
        String kid = "k".repeat(8192 - Keys.oct(new byte[1], ",\"kid\":\"\"").length());
        told(Keys.oct(new byte[1], ",\"kid\":\"" + kid + "\""), 0, 1, 0, 0, kid.length(), 0);
        House h = new House().put(0, Keys.oct(new byte[5], ",\"kid\":\"a\",\"use\":\"sig\",\"alg\":\"x\"")).put(1, Keys.rsa(512, 3, 5).text(true, ""));
        h.x.key(0);
        h.x.drop(0);
        h.x.key(1);
        h.x.drop(0);
        h.put(0, Keys.oct(new byte[5], ""));
        h.x.key(0);
        int[] due = {0, 5, 0, 0, -1, 0};
        for (int what = 0; what < 6; what++) {
            Check.same("nothing is left of what was dropped", h.x.told(0, what), due[what]);
        }
    }

    /** All in one object, whose room for keys is used again and again. */
    private static void oneAfterAnother() {
        Keys a = Keys.rsa(1024, 65537, 11);
        Keys b = Keys.rsa(512, 3, 12);
        String[] texts = {a.text(true, ",\"kid\":\"long enough\""), b.text(true, ",\"use\":\"enc\""), b.text(false, ""), Keys.ec(BigInteger.TEN, true, ",\"alg\":\"x\""), Keys.ec(BigInteger.TWO, false, ",\"kid\":\"\""),
            Keys.oct(new byte[128], ",\"use\":\"x\""), Keys.oct(new byte[2], ""), "{", "{\"kty\":\"oct\",\"k\":\"\"}", Keys.rsaText(Keys.letters(a.n), "AQAB", Keys.letters(b.d), ""), Keys.ecText(new byte[32], new byte[32], new byte[32], "")};
        House h = new House();
        java.util.Random random = new java.util.Random(1);
        for (int turn = 0; turn < 400; turn++) {
            String text = texts[random.nextInt(texts.length)];
            House alone = new House().put(0, text);
            int due = alone.x.key(0);
            int key = h.put(0, text).x.key(0);
            Check.that("key answered " + key, due == 0 ? key >= 0 : key == due);
            if (due == 0) {
                for (int what = 0; what < 6; what++) {
                    Check.same("told", h.x.told(key, what), alone.x.told(0, what));
                }
                h.x.print(key);
                alone.x.print(0);
                Check.same("print", h.out(), alone.out());
            }
            for (int k = random.nextInt(3) == 0 ? 0 : 12; k < 16; k++) {
                h.x.drop(k);
            }
        }
    }

    private static void print(String text, String members) throws Exception {
        House h = new House().put(0, text);
        Check.same("key", h.x.key(0), 0);
        h.put(0, "");
        Check.same("print", h.x.print(0), 32);
        Check.same("print of " + text, h.out(), MessageDigest.getInstance("SHA-256").digest(House.bytes(members)));
    }

    private static void prints() throws Exception {
        byte[] k = Keys.bytes(77, 7);
        print(Keys.oct(k, ",\"kid\":\"x\""), "{\"k\":\"" + House.letters(k) + "\",\"kty\":\"oct\"}");
        for (boolean secret : new boolean[] {false, true}) {
            Keys r = Keys.rsa(1000, 65537, 9);
            print(r.text(secret, ",\"use\":\"sig\""), "{\"e\":\"AQAB\",\"kty\":\"RSA\",\"n\":\"" + Keys.letters(r.n) + "\"}");
            String ec = Keys.ec(BigInteger.valueOf(99), secret, "");
            String x = ec.substring(ec.indexOf("\"x\""), ec.indexOf("\"y\"") + 49);
            print(ec, "{\"crv\":\"P-256\",\"kty\":\"EC\"," + x + "}");
        }
    }
}
