import java.math.BigInteger;
import java.util.Random;

/** Keys made from fixed seeds, and their texts. */
final class Keys {
    final BigInteger n;
    final BigInteger e;
    final BigInteger d;

    private Keys(BigInteger n, BigInteger e, BigInteger d) {
        this.n = n;
        this.e = e;
        this.d = d;
    }

    /** An RSA key whose n has just so many bits. */
    static Keys rsa(int bits, long e, int seed) {
        Random random = new Random(seed);
        BigInteger exponent = BigInteger.valueOf(e);
        while (true) {
            BigInteger p = BigInteger.probablePrime(bits / 2, random);
            BigInteger q = BigInteger.probablePrime(bits - bits / 2, random);
            BigInteger n = p.multiply(q);
            BigInteger phi = p.subtract(BigInteger.ONE).multiply(q.subtract(BigInteger.ONE));
            if (n.bitLength() == bits && !p.equals(q) && phi.gcd(exponent).equals(BigInteger.ONE)) {
                return new Keys(n, exponent, exponent.modInverse(phi));
            }
        }
    }

    static byte[] plain(BigInteger x) {
        return NumberTest.fixed(x, Math.max(1, (x.bitLength() + 7) / 8));
    }

    static String letters(BigInteger x) {
        return House.letters(plain(x));
    }

    int many() {
        return plain(n).length;
    }

    String text(boolean secret, String more) {
        return rsaText(letters(n), letters(e), secret ? letters(d) : null, more);
    }

    static String rsaText(String n, String e, String d, String more) {
        return "{\"kty\":\"RSA\",\"n\":\"" + n + "\",\"e\":\"" + e + "\"" + (d == null ? "" : ",\"d\":\"" + d + "\"") + more + "}";
    }

    static String oct(byte[] k, String more) {
        return "{\"kty\":\"oct\",\"k\":\"" + House.letters(k) + "\"" + more + "}";
    }

    static String ec(BigInteger d, boolean secret, String more) {
        BigInteger[] point = NumberTest.times(d, NumberTest.G);
        return ecText(NumberTest.fixed(point[0], 32), NumberTest.fixed(point[1], 32), secret ? NumberTest.fixed(d, 32) : null, more);
    }

    static String ecText(byte[] x, byte[] y, byte[] d, String more) {
        return "{\"kty\":\"EC\",\"crv\":\"P-256\",\"x\":\"" + House.letters(x) + "\",\"y\":\"" + House.letters(y) + "\""
            + (d == null ? "" : ",\"d\":\"" + House.letters(d) + "\"") + more + "}";
    }

    /** Bytes that differ from place to place. */
    static byte[] bytes(int many, int seed) {
        byte[] bytes = new byte[many];
        new Random(seed).nextBytes(bytes);
        return bytes;
    }
}
