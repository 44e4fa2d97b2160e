import java.math.BigInteger;
import java.util.Arrays;
import java.util.Random;

/** Promises 24 and 25. */
public final class NumberTest {
    private static final Random RANDOM = new Random(24);
    static final BigInteger P = new BigInteger("ffffffff00000001000000000000000000000000ffffffffffffffffffffffff", 16);
    static final BigInteger N = new BigInteger("ffffffff00000000ffffffffffffffffbce6faada7179e84f3b9cac2fc632551", 16);
    static final BigInteger B = new BigInteger("5ac635d8aa3a93e7b3ebbd55769886bc651d06b0cc53b0f63bce3c3e27d2604b", 16);
    static final BigInteger[] G = {new BigInteger("6b17d1f2e12c4247f8bce6e563a440f277037d812deb33a0f4a13945d898c296", 16),
        new BigInteger("4fe342e2fe1a7f9b8ee7eb4a7c0f9e162bce33576b315ececbb6406837bf51f5", 16)};

    public static void main(String[] args) {
        powers();
        powerEdges();
        powerRefusals();
        multiples();
        multipleEdges();
        multipleRefusals();
        Check.end();
    }

    private static byte[] bytes(int many) {
        byte[] bytes = new byte[many];
        RANDOM.nextBytes(bytes);
        return bytes;
    }

    static byte[] fixed(BigInteger x, int many) {
        byte[] all = x.toByteArray();
        byte[] to = new byte[many];
        for (int i = 1; i <= many && i <= all.length; i++) {
            to[many - i] = all[all.length - i];
        }
        return to;
    }

    private static void power(House h, byte[] base, byte[] exponent, byte[] modulus) {
        h.put(0, base).put(1, exponent).put(2, modulus);
        BigInteger m = new BigInteger(1, modulus);
        byte[] due = fixed(new BigInteger(1, base).modPow(new BigInteger(1, exponent), m), modulus.length);
        Check.same("power", h.x.power(0, 1, 2), modulus.length);
        Check.same("power modulo " + m, h.out(), due);
    }

    private static void powers() {
        House h = new House();
        for (int many = 1; many <= 128; many++) {
            for (int turn = 0; turn < 6; turn++) {
                byte[] modulus = bytes(many);
                modulus[many - 1] |= 1;
                modulus[0] |= turn % 2 == 0 ? 1 : 0x80;
                if (turn == 4) {
                    Arrays.fill(modulus, (byte) 255);
                }
                if (turn == 5) {
                    Arrays.fill(modulus, (byte) 0);
                    modulus[0] = 1;
                    modulus[many - 1] |= many == 1 ? 3 : 1;
                }
                if (many == 1 && modulus[0] == 1) {
                    modulus[0] = 3;
                }
                byte[] base = bytes(RANDOM.nextInt(129));
                if (turn == 3) {
                    base = new byte[128];
                    Arrays.fill(base, (byte) 255);
                }
                power(h, base, bytes(turn < 2 ? RANDOM.nextInt(129) : RANDOM.nextInt(4)), modulus);
            }
        }
    }

    private static void powerEdges() {
        House h = new House();
        byte[] none = {};
        byte[][] moduli = {{3}, {5}, {(byte) 255}, {1, 1}, {1, 0, 0, 0, 1}, {127, -1, -1, -1, -1, -1, -1, -1}, fixed(P, 32), fixed(N, 32)};
        byte[][] numbers = {none, {0}, {0, 0, 0, 0, 0}, {1}, {0, 1}, {2}, {3}, {0, 0, 0, 0, 3}, {6}, {-1}, {-1, -1, -1, -1}, {1, 0, 0, 0, 0}, fixed(P, 32), fixed(P.subtract(BigInteger.ONE), 33), new byte[128]};
        for (byte[] modulus : moduli) {
            for (byte[] base : numbers) {
                for (byte[] exponent : numbers) {
                    power(h, base, exponent, modulus);
                }
            }
        }
        h.put(0, none).put(2, new byte[] {7});
        Check.same("0 to the power 0", h.x.power(0, 0, 2), 1);
        Check.same("is 1", h.x.out(0), 1);
    }

    private static void powerRefusals() {
        House h = new House().put(0, new byte[] {2}).put(1, new byte[129]).put(2, new byte[] {7}).mark();
        Check.same("power", h.x.power(1, 0, 2), House.BAD);
        Check.same("power", h.x.power(0, 1, 2), House.BAD);
        byte[] large = new byte[129];
        Arrays.fill(large, (byte) 255);
        byte[][] bad = {{}, {0}, {1}, {2}, {0, 3}, {3, 0}, {1, 2}, large, {(byte) 254}, new byte[128]};
        for (byte[] modulus : bad) {
            h.put(3, modulus);
            Check.same("power", h.x.power(0, 0, 3), House.BAD);
        }
        for (int r : new int[] {-1, 8, Integer.MIN_VALUE}) {
            Check.same("power", h.x.power(r, 0, 2), House.BAD);
            Check.same("power", h.x.power(0, r, 2), House.BAD);
            Check.same("power", h.x.power(0, 0, r), House.BAD);
        }
        h.unmarked("power");
    }

    /** Null is no point. */
    static BigInteger[] add(BigInteger[] a, BigInteger[] b) {
        if (a == null || b == null) {
            return a == null ? b : a;
        }
        BigInteger slope;
        if (a[0].equals(b[0])) {
            if (!a[1].equals(b[1])) {
                return null;
            }
            slope = a[0].multiply(a[0]).subtract(BigInteger.ONE).multiply(BigInteger.valueOf(3)).multiply(a[1].shiftLeft(1).modInverse(P));
        } else {
            slope = b[1].subtract(a[1]).multiply(b[0].subtract(a[0]).mod(P).modInverse(P));
        }
        BigInteger x = slope.multiply(slope).subtract(a[0]).subtract(b[0]).mod(P);
        return new BigInteger[] {x, slope.multiply(a[0].subtract(x)).subtract(a[1]).mod(P)};
    }

    static BigInteger[] times(BigInteger k, BigInteger[] p) {
        BigInteger[] sum = null;
        for (int i = k.bitLength() - 1; i >= 0; i--) {
            sum = add(sum, sum);
            if (k.testBit(i)) {
                sum = add(sum, p);
            }
        }
        return sum;
    }

    /** A y of this x; null: there is none. */
    static BigInteger root(BigInteger x) {
        BigInteger square = x.pow(3).subtract(x.multiply(BigInteger.valueOf(3))).add(B).mod(P);
        BigInteger root = square.modPow(P.add(BigInteger.ONE).shiftRight(2), P);
        return root.multiply(root).mod(P).equals(square) ? root : null;
    }

    /** The least number that makes of a point one whose x (0) or y (1) begins with a byte 0. */
    static BigInteger leadingZero(BigInteger[] p, int coordinate) {
        BigInteger number = BigInteger.ONE;
        for (BigInteger[] sum = p; sum[coordinate].bitLength() > 248; sum = add(sum, p)) {
            number = number.add(BigInteger.ONE);
        }
        return number;
    }

    static byte[] point(BigInteger[] p) {
        return House.join(fixed(p[0], 32), fixed(p[1], 32));
    }

    private static void multiple(House h, BigInteger k, BigInteger[] p) {
        BigInteger[] due = times(k, p);
        h.mark().put(0, fixed(k, 32)).put(1, point(p));
        Check.same("multiply", h.x.multiply(0, 1), due == null ? House.NONE : 64);
        if (due == null) {
            h.unmarked("multiply");
        } else {
            Check.same(k + " times", h.out(), point(due));
        }
        if (p == G && due != null) {
            Check.same("multiply", h.x.multiply(0, House.NONE), 64);
            Check.same(k + " times the base", h.out(), point(due));
        }
    }

    private static void multiples() {
        House h = new House();
        for (int turn = 0; turn < 12; turn++) {
            BigInteger k = new BigInteger(256, RANDOM);
            multiple(h, k, G);
            multiple(h, k, times(new BigInteger(256, RANDOM), G));
        }
    }

    private static void multipleEdges() {
        House h = new House();
        BigInteger[] other = times(BigInteger.valueOf(7777), G);
        for (int d = -4; d <= 4; d++) {
            for (BigInteger[] p : new BigInteger[][] {G, other}) {
                multiple(h, N.add(BigInteger.valueOf(d)), p);
                multiple(h, N.shiftRight(1).add(BigInteger.valueOf(d)), p);
                if (d >= 0) {
                    multiple(h, BigInteger.valueOf(d), p);
                    multiple(h, BigInteger.ONE.shiftLeft(256).subtract(BigInteger.valueOf(d + 1)), p);
                    multiple(h, BigInteger.ONE.shiftLeft(255).subtract(BigInteger.valueOf(d)), p);
                }
            }
        }
        h.mark().put(0, new byte[32]);
        Check.same("0 times the base", h.x.multiply(0, House.NONE), House.NONE);
        h.put(0, fixed(N, 32));
        Check.same("the order times the base", h.x.multiply(0, House.NONE), House.NONE);
        h.unmarked("multiply");
    }

    private static void multipleRefusals() {
        House h = new House().put(0, fixed(BigInteger.TWO, 32)).put(1, point(G)).mark();
        for (int many : new int[] {0, 1, 31, 33, 64, 8192}) {
            h.put(2, new byte[many]);
            Check.same("multiply", h.x.multiply(2, 1), House.BAD);
            Check.same("multiply", h.x.multiply(2, House.NONE), House.BAD);
        }
        for (int many : new int[] {0, 32, 63, 64, 65}) {
            h.put(2, Arrays.copyOf(new byte[64], many));
            Check.same("multiply", h.x.multiply(0, 2), House.BAD);
        }
        h.put(2, Arrays.copyOf(point(G), 65));
        Check.same("multiply", h.x.multiply(0, 2), House.BAD);
        h.put(2, Arrays.copyOf(point(G), 63));
        Check.same("multiply", h.x.multiply(0, 2), House.BAD);
        for (int i = 0; i < 64; i += 7) {
            h.x.poke(1, i, 1);
            Check.same("multiply", h.x.multiply(0, 1), House.BAD);
            h.x.poke(1, i, 1);
        }
        // the first x on the curve, which is the same again with p more, but no number of the field then
        BigInteger x = BigInteger.ZERO;
        BigInteger y = null;
        for (int i = 0; i < 40 && y == null; i++) {
            x = BigInteger.valueOf(i);
            y = root(x);
        }
        multiple(h, BigInteger.valueOf(3), new BigInteger[] {x, y});
        multiple(h, BigInteger.valueOf(3), new BigInteger[] {x, P.subtract(y)});
        h.mark().put(0, fixed(BigInteger.TWO, 32)).put(1, House.join(fixed(x.add(P), 32), fixed(y, 32)));
        Check.same("multiply", h.x.multiply(0, 1), House.BAD);
        // likewise a y of 5
        BigInteger[] low = {new BigInteger("d7325d7646cd60d80a92738ceb345f844cffaf35841022cab176f692de8de1d7", 16), BigInteger.valueOf(5)};
        h.put(1, House.join(fixed(low[0], 32), fixed(P.add(low[1]), 32)));
        Check.same("multiply", h.x.multiply(0, 1), House.BAD);
        multiple(h, BigInteger.TWO, low);
        multiple(h, BigInteger.TWO, new BigInteger[] {low[0], P.subtract(low[1])});
        h.mark().put(0, fixed(BigInteger.TWO, 32));
        h.put(1, House.join(fixed(P, 32), fixed(P, 32)));
        Check.same("multiply", h.x.multiply(0, 1), House.BAD);
        byte[] full = new byte[64];
        Arrays.fill(full, (byte) 255);
        h.put(1, full);
        Check.same("multiply", h.x.multiply(0, 1), House.BAD);
        for (int r : new int[] {-2, 8, Integer.MIN_VALUE}) {
            Check.same("multiply", h.x.multiply(0, r), House.BAD);
            Check.same("multiply", h.x.multiply(r, House.NONE), House.BAD);
        }
        Check.same("multiply", h.x.multiply(House.NONE, House.NONE), House.BAD);
        h.unmarked("multiply");
    }
}
