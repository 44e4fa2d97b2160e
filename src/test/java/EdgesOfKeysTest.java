import java.math.BigInteger;
import java.util.Arrays;
import java.util.Random;

/** Promises 27 to 30: each sentence that names a boundary. */
public final class EdgesOfKeysTest {
    private static final int[] NO_ROWS = {-1, -2, 8, Integer.MIN_VALUE, Integer.MAX_VALUE};
    private static final int[] NO_KEYS = {-1, -2, 1, 15, 16, Integer.MIN_VALUE, Integer.MAX_VALUE};
    private static final BigInteger ONE = BigInteger.ONE, TWO = BigInteger.TWO, P = NumberTest.P, N = NumberTest.N;
    private static final Keys RSA = Keys.rsa(1024, 65537, 27);
    private static final BigInteger D = new BigInteger("00ff00000000000000000000000000000000000000000000000000000000cafe", 16);

    public static void main(String[] args) throws Exception {
        noText();
        noObject();
        kty();
        strings();
        octs();
        moduli();
        exponents();
        secrets();
        secretsNextToTheModulus();
        powersNextTo2();
        curves();
        curveSecrets();
        missing();
        firstReason();
        numbers();
        drop();
        told();
        print();
        Check.end(27, 30);
    }

    /** A key's number (1: another one is there before) or -10 less the reason, and then nothing is changed. */
    private static void key(String text, int due) {
        House h = House.lived().put(1, text);
        String what = "key " + (text.length() > 300 ? text.substring(0, 300) + " ..." : text);
        if (due < 0) {
            Check.refused(h, what, () -> h.x.key(1), due);
        } else {
            Check.same(what, h.x.key(1), 1);
        }
    }

    private static void noText() {
        Check.promise(27, "1 it is no text of a value");
        for (String text : new String[] {"", " ", "{", "{\"kty\":\"oct\",\"k\":\"AA\"", "{\"kty\":\"oct\",\"k\":\"AA\"}}", "{\"kty\":\"oct\",\"k\":\"AA\",\"k\":\"AA\"}", "{\"kty\":\"oct\",\"k\":\"AA\",\"\\u006bty\":\"oct\"}", "\"\u0080\""}) {
            key(text, -11);
        }
        key("{\"kty\":\"oct\",\"k\":\"AA\",\"x\":" + "[".repeat(39) + "]".repeat(39) + "}", 0);
        key("{\"kty\":\"oct\",\"k\":\"AA\",\"x\":" + "[".repeat(40) + "]".repeat(40) + "}", -11);
        key("{\"kty\":\"oct\",\"k\":\"AA\",\"x\":[" + "0,".repeat(595) + "0]}", 0);
        key("{\"kty\":\"oct\",\"k\":\"AA\",\"x\":[" + "0,".repeat(596) + "0]}", -11);
    }

    private static void noObject() {
        Check.promise(27, "2 no object");
        for (String text : new String[] {"[]", "[{\"kty\":\"oct\",\"k\":\"AA\"}]", "null", "true", "7", "\"oct\"", "\"\""}) {
            key(text, -12);
        }
    }

    private static void kty() {
        Check.promise(27, "3 kty is not there");
        key("{}", -13);
        key("{\"k\":\"AA\"}", -13);
        key("{\"Kty\":\"oct\",\"k\":\"AA\"}", -13);
        key("{\"x\":{\"kty\":\"oct\"},\"k\":\"AA\"}", -13);
        Check.promise(27, "3 kty is no string");
        for (String value : new String[] {"null", "0", "true", "[\"oct\"]", "{\"kty\":\"oct\"}"}) {
            key("{\"kty\":" + value + ",\"k\":\"AA\"}", -13);
        }
        Check.promise(27, "3 kty is none of the three");
        for (String value : new String[] {"", "oc", "octt", "Oct", "OCT", "rsa", "RS", "RSA ", "ec", "E", "ECC", "OKP"}) {
            key("{\"kty\":\"" + value + "\",\"k\":\"AA\"}", -13);
        }
        key("{\"kty\":\"\\u006fct\",\"k\":\"AA\"}", 0);
    }

    private static void strings() {
        String[] texts = {"{\"kty\":\"oct\",\"k\":\"AA\"", RSA.text(true, "").replace("}", ""), Keys.ec(D, true, "").replace("}", "")};
        for (String name : new String[] {"kid", "use", "alg"}) {
            for (String text : texts) {
                Check.promise(27, "4 one of kid, use, alg is there, but no string");
                for (String value : new String[] {"null", "0", "false", "[]", "{}", "[\"sig\"]"}) {
                    key(text + ",\"" + name + "\":" + value + "}", -14);
                }
                Check.promise(27, "kid, use, alg may be any strings");
                key(text + ",\"" + name + "\":\"\"}", 0);
                key(text + ",\"" + name + "\":\"\\u0000\"}", 0);
            }
        }
        Check.promise(27, "all other members mean nothing");
        key("{\"kty\":\"oct\",\"k\":\"AA\",\"d\":1,\"n\":2,\"e\":3,\"crv\":4,\"x\":5,\"y\":6,\"key_ops\":7,\"KID\":8,\"\":9}", 0);
        key(texts[1] + ",\"k\":1,\"crv\":2,\"x\":3,\"y\":4,\"p\":5,\"q\":6,\"oth\":7}", 0);
        key(texts[2] + ",\"k\":1,\"n\":2,\"e\":3}", 0);
    }

    private static void octs() {
        Check.promise(27, "k has 1 .. 128 bytes");
        key(Keys.oct(new byte[0], ""), -16);
        key(Keys.oct(new byte[1], ""), 0);
        key(Keys.oct(new byte[127], ""), 0);
        key(Keys.oct(Keys.bytes(128, 1), ""), 0);
        key(Keys.oct(new byte[129], ""), -16);
        key(Keys.oct(new byte[6100], ""), -16);
        Check.promise(27, "5 k is not there or no string, or no letters for bytes");
        key("{\"kty\":\"oct\"}", -15);
        for (String k : new String[] {"null", "1", "[\"AA\"]", "\"A\"", "\"AB\"", "\"AAB\"", "\"AA=\"", "\"A+\"", "\"A/\"", "\"AAAA \"", "\"\\u0000\""}) {
            key("{\"kty\":\"oct\",\"k\":" + k + "}", -15);
        }
    }

    private static void moduli() {
        Check.promise(27, "a modulus n of 64 to 128 bytes, odd");
        byte[] full = new byte[130];
        Arrays.fill(full, (byte) 255);
        for (int many : new int[] {0, 1, 2, 62, 63, 64, 65, 127, 128, 129, 130}) {
            key(Keys.rsaText(House.letters(Arrays.copyOf(full, many)), "Aw", null, ""), many >= 64 && many <= 128 ? 0 : -16);
        }
        for (int many : new int[] {64, 128}) {
            byte[] least = House.join(new byte[] {1}, new byte[many - 2], new byte[] {1});
            key(Keys.rsaText(House.letters(least), "Aw", null, ""), 0);
            least[many - 1] = 2;
            key(Keys.rsaText(House.letters(least), "Aw", null, ""), -16);
            Check.promise(27, "n without 0s in front");
            byte[] zero = Arrays.copyOf(full, many);
            zero[0] = 0;
            key(Keys.rsaText(House.letters(zero), "Aw", null, ""), -16);
        }
        key(Keys.rsaText(House.letters(House.join(new byte[1], Arrays.copyOf(full, 64))), "Aw", null, ""), -16);
    }

    private static void exponents() {
        String n = Keys.letters(RSA.n);
        Check.promise(27, "an exponent e, odd, 3 or more, below n");
        for (int e : new int[] {0, 1, 2, 4, 254, 256, 65536}) {
            key(Keys.rsaText(n, Keys.letters(BigInteger.valueOf(e)), null, ""), -16);
        }
        for (int e : new int[] {3, 5, 255, 257, 65537}) {
            key(Keys.rsaText(n, Keys.letters(BigInteger.valueOf(e)), null, ""), 0);
        }
        key(Keys.rsaText(n, Keys.letters(RSA.n.subtract(TWO)), null, ""), 0);
        key(Keys.rsaText(n, Keys.letters(RSA.n.subtract(ONE)), null, ""), -16);
        key(Keys.rsaText(n, Keys.letters(RSA.n), null, ""), -16);
        key(Keys.rsaText(n, Keys.letters(RSA.n.add(TWO)), null, ""), -16);
        key(Keys.rsaText(n, "", null, ""), -16);
        key(Keys.rsaText(n, House.letters(House.join(Keys.plain(RSA.n), new byte[] {1})), null, ""), -16);
        BigInteger small = Keys.rsa(512, 3, 5).n;
        key(Keys.rsaText(Keys.letters(small), Keys.letters(ONE.shiftLeft(512).add(ONE)), null, ""), -16);
        Check.promise(27, "e without 0s in front");
        key(Keys.rsaText(n, House.letters(new byte[] {0, 3}), null, ""), -16);
        Check.promise(27, "e of 1 does not do, although 2 to the power e d is 2 then");
        key(Keys.rsaText(n, "AQ", "AQ", ""), -16);
    }

    private static void secrets() {
        String n = Keys.letters(RSA.n);
        Check.promise(27, "a secret d for which 2 to the power e d is 2 modulo n");
        key(RSA.text(true, ""), 0);
        for (BigInteger bad : new BigInteger[] {ONE, TWO, RSA.d.subtract(ONE), RSA.d.add(ONE), RSA.d.add(TWO), RSA.n.subtract(ONE)}) {
            key(Keys.rsaText(n, "AQAB", Keys.letters(bad), ""), -16);
        }
        Check.promise(27, "d is 1 or more, without 0s in front");
        for (byte[] bad : new byte[][] {{}, {0}, new byte[128], House.join(new byte[1], Keys.plain(RSA.d))}) {
            key(Keys.rsaText(n, "AQAB", House.letters(bad), ""), -16);
        }
        Keys small = Keys.rsa(512, 17, 4);
        key(Keys.rsaText(Keys.letters(small.n), "EQ", House.letters(House.join(new byte[1], Keys.plain(small.d))), ""), -16);
        key(small.text(true, ""), 0);
    }

    /** A modulus for which the powers of 2 come round after an odd number of steps, so that any d next to it has its e. */
    private static void secretsNextToTheModulus() {
        Check.promise(27, "d is 1 or more, and below n");
        Random random = new Random(7);
        BigInteger n;
        BigInteger round;
        BigInteger[] ds;
        do {
            BigInteger p = primeOf7(random);
            BigInteger q = primeOf7(random);
            n = p.multiply(q);
            round = p.shiftRight(1).multiply(q.shiftRight(1));
            ds = new BigInteger[] {ONE, TWO, n.subtract(TWO), n.subtract(ONE), n, n.add(ONE), n.add(TWO)};
        } while (!allAreUnits(ds, round));
        for (BigInteger d : ds) {
            BigInteger e = d.modInverse(round);
            e = e.testBit(0) && e.compareTo(TWO) > 0 ? e : e.add(round);
            e = e.testBit(0) ? e : e.add(round);
            Check.that("2 to the power e d is 2", TWO.modPow(e.multiply(d), n).equals(TWO));
            key(Keys.rsaText(Keys.letters(n), Keys.letters(e), Keys.letters(d), ""), d.compareTo(n) < 0 ? 0 : -16);
        }
    }

    /** 2 is a square modulo such a prime. */
    private static BigInteger primeOf7(Random random) {
        BigInteger p = BigInteger.probablePrime(260, random);
        while ((p.intValue() & 7) != 7) {
            p = BigInteger.probablePrime(260, random);
        }
        return p;
    }

    private static boolean allAreUnits(BigInteger[] numbers, BigInteger modulus) {
        return Arrays.stream(numbers).allMatch(x -> x.gcd(modulus).equals(ONE));
    }

    /** 2 to the power 3 171 is 2 modulo 2 to the power 512, less 1; with these moduli it is more by one bit of another byte. */
    private static void powersNextTo2() {
        Check.promise(27, "2 to the power e d is 2 modulo n, in all bytes");
        BigInteger all = ONE.shiftLeft(512).subtract(ONE);
        key(Keys.rsaText(Keys.letters(all), "Aw", Keys.letters(BigInteger.valueOf(171)), ""), 0);
        Check.promise(27, "a short d without 0s in front");
        for (int zeros = 1; zeros < 64; zeros++) {
            key(Keys.rsaText(Keys.letters(all), "Aw", House.letters(House.join(new byte[zeros], new byte[] {(byte) 171})), ""), -16);
        }
        Check.promise(27, "2 to the power e d is 2 modulo n, in all bytes");
        for (int place = 1; place < 64; place++) {
            BigInteger n = all.subtract(ONE.shiftLeft(8 * place - 1));
            Check.that("it is 2 and more", TWO.modPow(BigInteger.valueOf(513), n).equals(TWO.add(ONE.shiftLeft(8 * place))));
            key(Keys.rsaText(Keys.letters(n), "Aw", Keys.letters(BigInteger.valueOf(171)), ""), -16);
        }
    }

    private static void curves() {
        BigInteger[] p = NumberTest.times(D, NumberTest.G);
        byte[] x = NumberTest.fixed(p[0], 32);
        byte[] y = NumberTest.fixed(p[1], 32);
        Check.promise(27, "x, y of 32 bytes each");
        for (int many : new int[] {0, 31, 33, 64}) {
            key(Keys.ecText(NumberTest.fixed(p[0], many), y, null, ""), -16);
            key(Keys.ecText(x, NumberTest.fixed(p[1], many), null, ""), -16);
        }
        key(Keys.ecText(House.join(x, new byte[1]), Arrays.copyOf(y, 31), null, ""), -16);
        key(Keys.ecText(x, y, null, ""), 0);
        Check.promise(27, "6 a point not on the curve");
        key(Keys.ecText(x, x, null, ""), -16);
        key(Keys.ecText(y, x, null, ""), -16);
        key(Keys.ecText(new byte[32], new byte[32], null, ""), -16);
        key(Keys.ecText(x, NumberTest.fixed(p[1].add(ONE), 32), null, ""), -16);
        key(Keys.ecText(x, NumberTest.fixed(P.subtract(p[1]), 32), null, ""), 0);
        BigInteger low = new BigInteger("d7325d7646cd60d80a92738ceb345f844cffaf35841022cab176f692de8de1d7", 16);
        key(Keys.ecText(NumberTest.fixed(low, 32), NumberTest.fixed(BigInteger.valueOf(5), 32), null, ""), 0);
        key(Keys.ecText(NumberTest.fixed(low, 32), NumberTest.fixed(P.add(BigInteger.valueOf(5)), 32), null, ""), -16);
        Check.promise(27, "5 crv is another one");
        for (String crv : new String[] {"", "P-25", "P-2566", "p-256", "P-384", "secp256k1"}) {
            key(Keys.ecText(x, y, null, "").replace("P-256", crv), -15);
        }
    }

    private static void curveSecrets() {
        BigInteger[] p = NumberTest.times(D, NumberTest.G);
        byte[] x = NumberTest.fixed(p[0], 32);
        byte[] y = NumberTest.fixed(p[1], 32);
        Check.promise(27, "a secret d of 32 bytes, 1 .. the order less 1");
        key(Keys.ec(ONE, true, ""), 0);
        key(Keys.ec(TWO, true, ""), 0);
        key(Keys.ec(N.subtract(ONE), true, ""), 0);
        // the order and 1 times the base is the base again
        String base = Keys.ecText(NumberTest.fixed(NumberTest.G[0], 32), NumberTest.fixed(NumberTest.G[1], 32), NumberTest.fixed(N.add(ONE), 32), "");
        key(base, -16);
        for (BigInteger d : new BigInteger[] {BigInteger.ZERO, N, ONE.shiftLeft(256).subtract(ONE)}) {
            key(Keys.ecText(x, y, NumberTest.fixed(d, 32), ""), -16);
        }
        for (int many : new int[] {0, 31, 33}) {
            key(Keys.ecText(x, y, NumberTest.fixed(D, many), ""), -16);
        }
        Check.promise(27, "6 a secret that does not belong to the point");
        for (BigInteger d : new BigInteger[] {ONE, D.subtract(ONE), D.add(ONE), N.subtract(D)}) {
            key(Keys.ecText(x, y, NumberTest.fixed(d, 32), ""), -16);
        }
        key(Keys.ecText(x, y, NumberTest.fixed(D, 32), ""), 0);
    }

    /** The text without one member, or with another value of it. */
    private static String with(String text, String name, String value) {
        int at = text.indexOf("\"" + name + "\":\"");
        int stop = text.indexOf('"', at + name.length() + 4) + 1;
        return text.substring(0, at) + (value == null ? "\"_" + name + "\":0" : "\"" + name + "\":" + value) + text.substring(stop);
    }

    private static void missing() {
        String[] texts = {Keys.oct(new byte[9], ""), RSA.text(true, ""), Keys.ec(D, true, "")};
        String[][] wanted = {{"k"}, {"n", "e", "d"}, {"crv", "x", "y", "d"}};
        for (int kind = 0; kind < 3; kind++) {
            for (String name : wanted[kind]) {
                Check.promise(27, "5 a member is not there (d may be so)");
                key(with(texts[kind], name, null), name.equals("d") ? 0 : -15);
                Check.promise(27, "5 a member is no string, or no letters for bytes");
                for (String value : new String[] {"null", "1", "true", "[]", "{}", "\"A\"", "\"AB\"", "\"AAB\"", "\"AA=\"", "\"AA==\"", "\" \"", "\"AA.A\""}) {
                    key(with(texts[kind], name, value), -15);
                }
            }
        }
    }

    /** Every set of the seven reasons at once: the first one is answered. */
    private static void firstReason() {
        Check.promise(27, "the first reason that fits");
        String[] texts = {Keys.oct(new byte[9], ""), RSA.text(true, ""), Keys.ec(D, true, "")};
        String[][] five = {{"k"}, {"n", "d"}, {"crv", "x", "d"}};
        String[] six = {"k", "e", "y"};
        for (int kind = 0; kind < 3; kind++) {
            for (String name : five[kind]) {
                for (int set = 1; set < 128; set++) {
                    String text = texts[kind];
                    text = has(set, 6) ? with(text, six[kind], "\"\"") : text;
                    text = has(set, 5) ? with(text, name, "\"A\"") : text;
                    text = has(set, 4) ? text.replace("}", ",\"use\":0}") : text;
                    text = has(set, 3) ? with(text, "kty", "\"none\"") : text;
                    text = has(set, 2) ? "[" + text + "]" : text;
                    text = has(set, 1) ? text + "," : text;
                    House h = full(has(set, 7) ? 15 : 3).put(1, text);
                    Check.refused(h, "set " + set + " of " + texts[kind], () -> h.x.key(1), -11 - Integer.numberOfTrailingZeros(set));
                }
            }
        }
    }

    private static boolean has(int set, int reason) {
        return (set >> reason - 1 & 1) == 1;
    }

    /** So many keys more than the one that is there. */
    private static House full(int more) {
        House h = House.lived().put(1, Keys.oct(new byte[1], ""));
        for (int i = 1; i <= more; i++) {
            Check.same("key", h.x.key(1), i);
        }
        return h;
    }

    private static void numbers() {
        Check.promise(27, "7 there are 16 keys");
        House h = full(14);
        Check.same("the 16th", h.x.key(1), 15);
        Check.refused(h, "the 17th", () -> h.x.key(1), -17);
        Check.promise(27, "its number, the least that is free");
        for (int k : new int[] {15, 7, 0}) {
            h.x.drop(k);
            Check.same("in its place", h.x.key(1), k);
            Check.refused(h, "no more", () -> h.x.key(1), -17);
        }
        h.x.drop(9);
        h.x.drop(3);
        h.x.drop(12);
        Check.same("the least", h.x.key(1), 3);
        Check.same("the next", h.x.key(1), 9);
        Check.same("the last", h.x.key(1), 12);
        Check.promise(27, "BAD");
        House lived = House.lived();
        for (int r : NO_ROWS) {
            Check.refused(lived, "key of row " + r, () -> lived.x.key(r), House.BAD);
        }
        Check.refused(h, "BAD before the 16 keys", () -> h.x.key(8), House.BAD);
        Check.promise(27, "a text that fills a row, and the row is no part of the key");
        String kid = "k".repeat(8192 - Keys.oct(new byte[128], ",\"kid\":\"\"").length());
        House large = new House().put(7, Keys.oct(new byte[128], ",\"kid\":\"" + kid + "\""));
        Check.same("key", large.x.key(7), 0);
        large.put(7, "");
        Check.same("its kid", large.x.told(0, 4), kid.length());
    }

    private static void drop() {
        Check.promise(28, "a key is there no more");
        House h = full(15);
        for (int k : new int[] {15, 0, 8}) {
            Check.same("drop " + k, h.x.drop(k), 1);
            Check.refused(h, "told", () -> h.x.told(k, 0), House.BAD);
            Check.refused(h, "print", () -> h.x.print(k), House.BAD);
            Check.refused(h, "sign", () -> h.x.sign(k, 0, -1, 0, 0), House.BAD);
            Check.refused(h, "encrypt", () -> h.x.encrypt(k, 0, 0, 0, 0, -1, -1), House.BAD);
            Check.promise(28, "BAD: it is not there");
            Check.refused(h, "drop again", () -> h.x.drop(k), House.BAD);
        }
        Check.same("another one stays", h.x.told(7, 1), 1);
        Check.promise(28, "BAD: no such key");
        House one = House.lived();
        for (int k : NO_KEYS) {
            Check.refused(one, "drop " + k, () -> one.x.drop(k), House.BAD);
        }
        Check.same("drop 0", one.x.drop(0), 1);
    }

    private static void told(String text, int... due) {
        House h = House.lived().put(1, text);
        h.x.drop(0);
        Check.same("key", h.x.key(1), 0);
        for (int what = 0; what < 6; what++) {
            Check.same("told " + what + " of " + text, h.x.told(0, what), due[what]);
        }
        for (int what : new int[] {-1, 6, 7, Integer.MIN_VALUE, Integer.MAX_VALUE}) {
            Check.refused(h, "told " + what, () -> h.x.told(0, what), House.BAD);
        }
    }

    private static void told() {
        Check.promise(29, "0 its kty, 1 how many bytes k or n has (32 of EC)");
        told(Keys.oct(new byte[1], ""), 0, 1, 0, 0, -1, 0);
        told(Keys.oct(new byte[128], ""), 0, 128, 0, 0, -1, 0);
        told(Keys.rsa(505, 3, 1).text(false, ""), 1, 64, 0, 0, -1, 0);
        told(RSA.text(false, ""), 1, 128, 0, 0, -1, 0);
        told(Keys.ec(D, false, ""), 2, 32, 0, 0, -1, 0);
        Check.promise(29, "2 whether d is there");
        told(RSA.text(true, ""), 1, 128, 1, 0, -1, 0);
        told(Keys.ec(ONE, true, ""), 2, 32, 1, 0, -1, 0);
        told(Keys.oct(new byte[3], ",\"d\":\"AQ\""), 0, 3, 0, 0, -1, 0);
        Check.promise(29, "3 its use (0 not there, 1 sig, 2 enc, 3 another)");
        String[] uses = {"sig", "enc", "", "si", "sigg", "Sig", "ENC", "en", "\\u0073ig", "\\u0065nc"};
        int[] due = {1, 2, 3, 3, 3, 3, 3, 3, 1, 2};
        for (int i = 0; i < uses.length; i++) {
            told(Keys.oct(new byte[3], ",\"use\":\"" + uses[i] + "\""), 0, 3, 0, due[i], -1, 0);
        }
        Check.promise(29, "4 how many bytes kid says (NONE: not there)");
        told(Keys.oct(new byte[3], ",\"kid\":\"\""), 0, 3, 0, 0, 0, 0);
        told(Keys.oct(new byte[3], ",\"kid\":\"a\""), 0, 3, 0, 0, 1, 0);
        told(Keys.oct(new byte[3], ",\"kid\":\"\\ud83d\\ude00\\n\""), 0, 3, 0, 0, 5, 0);
        for (int many : new int[] {63, 64, 65, 127, 128, 129, 4096, 8192 - Keys.oct(new byte[3], ",\"kid\":\"\"").length()}) {
            told(Keys.oct(new byte[3], ",\"kid\":\"" + "k".repeat(many) + "\""), 0, 3, 0, 0, many, 0);
        }
        Check.promise(29, "5 whether alg is there");
        told(Keys.oct(new byte[3], ",\"alg\":\"\""), 0, 3, 0, 0, -1, 1);
        told(Keys.oct(new byte[3], ",\"alg\":\"HS256\""), 0, 3, 0, 0, -1, 1);
        told(Keys.oct(new byte[3], ",\"alg\":\"no such\""), 0, 3, 0, 0, -1, 1);
        Check.promise(29, "BAD: no such key");
        House h = House.lived();
        for (int k : NO_KEYS) {
            Check.refused(h, "told of " + k, () -> h.x.told(k, 0), House.BAD);
        }
    }

    private static void print(String text, String members) throws Exception {
        House h = House.lived().put(1, text);
        Check.same("key", h.x.key(1), 1);
        Check.same("print", h.x.print(1), 32);
        Check.same("print of " + members, h.out(), Maker.hash(House.bytes(members)));
    }

    private static void print() throws Exception {
        Check.promise(30, "the object with crv, kty, x, y; with k, kty; with e, kty, n");
        for (int many : new int[] {1, 2, 3, 128}) {
            byte[] k = Keys.bytes(many, 30);
            print(Keys.oct(k, ",\"kid\":\"x\",\"alg\":\"HS256\",\"use\":\"sig\""), "{\"k\":\"" + House.letters(k) + "\",\"kty\":\"oct\"}");
        }
        for (boolean secret : new boolean[] {false, true}) {
            for (int bits : new int[] {505, 1024}) {
                Keys k = Keys.rsa(bits, 3, bits);
                print(k.text(secret, ",\"kid\":\"x\""), "{\"e\":\"Aw\",\"kty\":\"RSA\",\"n\":\"" + Keys.letters(k.n) + "\"}");
            }
            BigInteger[] p = NumberTest.times(D, NumberTest.G);
            print(Keys.ec(D, secret, ",\"kid\":\"x\""), "{\"crv\":\"P-256\",\"kty\":\"EC\",\"x\":\"" + House.letters(NumberTest.fixed(p[0], 32)) + "\",\"y\":\"" + House.letters(NumberTest.fixed(p[1], 32)) + "\"}");
        }
        // an e as long as n
        print(Keys.rsaText(Keys.letters(RSA.n), Keys.letters(RSA.n.subtract(TWO)), null, ""), "{\"e\":\"" + Keys.letters(RSA.n.subtract(TWO)) + "\",\"kty\":\"RSA\",\"n\":\"" + Keys.letters(RSA.n) + "\"}");
        Check.promise(30, "BAD");
        House h = House.lived();
        for (int k : NO_KEYS) {
            Check.refused(h, "print of " + k, () -> h.x.print(k), House.BAD);
        }
    }
}
