import java.math.BigInteger;
import java.util.Arrays;

/** Promises 24 to 26: each sentence that names a boundary. */
public final class EdgesOfNumbersTest {
    private static final int[] NO_ROWS = {-1, -2, 8, Integer.MIN_VALUE, Integer.MAX_VALUE};
    private static final BigInteger ONE = BigInteger.ONE, TWO = BigInteger.TWO, P = NumberTest.P, N = NumberTest.N;

    public static void main(String[] args) throws Exception {
        powerOfEdges();
        powerModulus();
        powerOthers();
        multiplyNumbers();
        multiplyPoints();
        multiplySizes();
        derive();
        oneRowForAll();
        Check.end(24, 26);
    }

    private static byte[] filled(int many, int by) {
        byte[] bytes = new byte[many];
        Arrays.fill(bytes, (byte) by);
        return bytes;
    }

    private static void power(byte[] base, byte[] exponent, byte[] modulus) {
        House h = new House().put(0, base).put(1, exponent).put(7, modulus);
        BigInteger due = new BigInteger(1, base).modPow(new BigInteger(1, exponent), new BigInteger(1, modulus));
        Check.same("power", h.x.power(0, 1, 7), modulus.length);
        Check.same("power modulo " + new BigInteger(1, modulus), h.out(), NumberTest.fixed(due, modulus.length));
    }

    private static void powerOfEdges() {
        byte[] none = {};
        byte[][] moduli = {{3}, {7}, {-1}, {-5}, {1, 1}, {5, 17, 91}, {1, 0, 0, 0, 1}, {9, 8, 7, 6, 5}, filled(127, 255), filled(128, 255), House.join(new byte[] {1}, new byte[126], new byte[] {1})};
        for (byte[] m : moduli) {
            BigInteger modulus = new BigInteger(1, m);
            Check.promise(24, "a row without bytes is 0");
            power(none, new byte[] {5}, m);
            power(new byte[] {2}, none, m);
            Check.promise(24, "to the power 0 all is 1");
            for (byte[] base : new byte[][] {none, {0}, {1}, {2}, new byte[128], m, filled(128, 255)}) {
                for (byte[] zero : new byte[][] {none, {0}, new byte[128]}) {
                    House h = new House().put(0, base).put(1, zero).put(2, m);
                    Check.same("power", h.x.power(0, 1, 2), m.length);
                    Check.same("is 1", h.out(), NumberTest.fixed(ONE, m.length));
                }
            }
            Check.promise(24, "a base next to the modulus");
            for (BigInteger base : new BigInteger[] {modulus.subtract(ONE), modulus, modulus.add(ONE)}) {
                if (base.bitLength() <= 1024) {
                    for (int e = 1; e < 4; e++) {
                        power(Keys.plain(base), new byte[] {(byte) e}, m);
                    }
                }
            }
            Check.promise(24, "128 bytes of base and exponent, and 0s in front of them");
            power(filled(128, 255), filled(128, 255), m);
            power(Keys.bytes(128, 24), Keys.bytes(128, 25), m);
            power(House.join(new byte[127], new byte[] {7}), House.join(new byte[127], new byte[] {3}), m);
        }
    }

    private static void powerModulus() {
        House h = House.lived().put(1, new byte[] {2});
        Check.promise(24, "the modulus has 1 .. 128 bytes");
        for (byte[] bad : new byte[][] {{}, filled(129, 255), filled(8192, 255)}) {
            h.put(2, bad);
            Check.refused(h, "a modulus of " + bad.length, () -> h.x.power(1, 1, 2), House.BAD);
        }
        Check.promise(24, "its first byte is not 0");
        for (byte[] bad : new byte[][] {{0}, {0, 3}, House.join(new byte[1], filled(127, 255))}) {
            h.put(2, bad);
            Check.refused(h, "a modulus of " + bad.length, () -> h.x.power(1, 1, 2), House.BAD);
        }
        Check.promise(24, "it is odd");
        for (byte[] bad : new byte[][] {{2}, {4}, {-2}, {1, 0}, {3, -2}, House.join(filled(127, 255), new byte[] {-2})}) {
            h.put(2, bad);
            Check.refused(h, "a modulus of " + bad.length, () -> h.x.power(1, 1, 2), House.BAD);
        }
        Check.promise(24, "it is above 1");
        h.put(2, new byte[] {1});
        Check.refused(h, "modulo 1", () -> h.x.power(1, 1, 2), House.BAD);
        h.put(2, new byte[] {3});
        Check.same("modulo 3", h.x.power(1, 1, 2), 1);
    }

    private static void powerOthers() {
        Check.promise(24, "BAD: also more than 128 bytes in one of the others");
        House h = House.lived().put(1, new byte[] {2}).put(2, new byte[] {7});
        for (int many : new int[] {129, 130, 8192}) {
            h.put(3, new byte[many]);
            Check.refused(h, "a base of " + many, () -> h.x.power(3, 1, 2), House.BAD);
            Check.refused(h, "an exponent of " + many, () -> h.x.power(1, 3, 2), House.BAD);
        }
        h.put(3, new byte[128]);
        Check.same("a base of 128", h.x.power(3, 1, 2), 1);
        Check.same("an exponent of 128", h.x.power(1, 3, 2), 1);
        Check.promise(24, "BAD: no such row");
        h.mark();
        for (int r : NO_ROWS) {
            Check.refused(h, "base " + r, () -> h.x.power(r, 1, 2), House.BAD);
            Check.refused(h, "exponent " + r, () -> h.x.power(1, r, 2), House.BAD);
            Check.refused(h, "modulus " + r, () -> h.x.power(1, 1, r), House.BAD);
        }
    }

    private static void multiply(BigInteger number, BigInteger[] point) {
        BigInteger[] due = NumberTest.times(number, point);
        House h = House.lived().put(1, NumberTest.fixed(number, 32)).put(2, NumberTest.point(point));
        int[] rows = point == NumberTest.G ? new int[] {House.NONE, 2} : new int[] {2};
        for (int row : rows) {
            if (due == null) {
                Check.refused(h, number + " times row " + row, () -> h.x.multiply(1, row), House.NONE);
            } else {
                Check.same(number + " times row " + row, h.x.multiply(1, row), 64);
                Check.same("OUT", h.out(), NumberTest.point(due));
            }
        }
    }

    private static void multiplyNumbers() {
        BigInteger all = ONE.shiftLeft(256);
        for (BigInteger[] point : new BigInteger[][] {NumberTest.G, NumberTest.times(N.subtract(ONE), NumberTest.G), NumberTest.times(BigInteger.valueOf(99), NumberTest.G)}) {
            Check.promise(25, "NONE: it is no point (0)");
            multiply(BigInteger.ZERO, point);
            multiply(N, point);
            Check.promise(25, "numbers next to 0 and to the order");
            for (BigInteger number : new BigInteger[] {ONE, TWO, BigInteger.valueOf(3), N.subtract(TWO), N.subtract(ONE), N.add(ONE), N.add(TWO)}) {
                multiply(number, point);
            }
            Check.promise(25, "x and y that begin with 0s have 32 bytes");
            multiply(NumberTest.leadingZero(point, 0), point);
            multiply(NumberTest.leadingZero(point, 1), point);
            Check.promise(25, "a number of 32 bytes, the highest ones too");
            for (BigInteger number : new BigInteger[] {all.subtract(ONE), all.subtract(TWO), all.shiftRight(1), all.shiftRight(1).subtract(ONE), P, N.shiftRight(1), N.shiftRight(1).add(ONE)}) {
                multiply(number, point);
            }
        }
    }

    private static void notOnCurve(String what, BigInteger x, BigInteger y) {
        House h = House.lived().put(1, NumberTest.fixed(TWO, 32)).put(2, House.join(NumberTest.fixed(x, 32), NumberTest.fixed(y, 32)));
        Check.refused(h, what, () -> h.x.multiply(1, 2), House.BAD);
        h.put(1, new byte[32]);
        Check.refused(h, what + ", 0 times", () -> h.x.multiply(1, 2), House.BAD);
    }

    private static void multiplyPoints() {
        Check.promise(25, "BAD: also the point is not on the curve, and BAD before NONE");
        BigInteger x = NumberTest.G[0];
        BigInteger y = NumberTest.G[1];
        notOnCurve("x and 1", x.add(ONE), y);
        notOnCurve("y and 1", x, y.add(ONE));
        notOnCurve("x less 1", x.subtract(ONE), y);
        notOnCurve("y less 1", x, y.subtract(ONE));
        notOnCurve("y, x", y, x);
        notOnCurve("0, 0", BigInteger.ZERO, BigInteger.ZERO);
        notOnCurve("all bits", ONE.shiftLeft(256).subtract(ONE), ONE.shiftLeft(256).subtract(ONE));
        Check.promise(25, "x and y are below the field's number");
        // x = 5 and y = 5 are coordinates of points
        BigInteger five = BigInteger.valueOf(5);
        BigInteger root = NumberTest.root(five);
        BigInteger low = new BigInteger("d7325d7646cd60d80a92738ceb345f844cffaf35841022cab176f692de8de1d7", 16);
        multiply(TWO, new BigInteger[] {five, root});
        multiply(TWO, new BigInteger[] {five, P.subtract(root)});
        multiply(TWO, new BigInteger[] {low, five});
        multiply(TWO, new BigInteger[] {low, P.subtract(five)});
        notOnCurve("x and the field's number", five.add(P), root);
        notOnCurve("y and the field's number", low, five.add(P));
        // so is x = 0, which the field's number itself is not
        BigInteger ofZero = NumberTest.root(BigInteger.ZERO);
        multiply(TWO, new BigInteger[] {BigInteger.ZERO, ofZero});
        notOnCurve("the field's number itself", P, ofZero);
        BigInteger last = P.subtract(ONE);
        while (NumberTest.root(last) == null) {
            last = last.subtract(ONE);
        }
        multiply(TWO, new BigInteger[] {last, NumberTest.root(last)});
        Check.promise(25, "NONE: the curve's base; another number below 0 is BAD");
        House h = House.lived().put(1, NumberTest.fixed(ONE, 32));
        for (int r : new int[] {-2, 8, Integer.MIN_VALUE, Integer.MAX_VALUE}) {
            Check.refused(h, "point " + r, () -> h.x.multiply(1, r), House.BAD);
        }
        Check.same("once the base", h.x.multiply(1, House.NONE), 64);
        Check.same("OUT", h.out(), NumberTest.point(NumberTest.G));
    }

    private static void multiplySizes() {
        House h = House.lived().put(1, NumberTest.fixed(ONE, 32)).put(2, NumberTest.point(NumberTest.G));
        Check.promise(25, "a number of 32 bytes");
        for (int many : new int[] {0, 1, 31, 33, 64, 8192}) {
            h.put(3, NumberTest.fixed(ONE, many));
            Check.refused(h, "a number of " + many, () -> h.x.multiply(3, 2), House.BAD);
            Check.refused(h, "a number of " + many, () -> h.x.multiply(3, House.NONE), House.BAD);
        }
        Check.promise(25, "a point of 64 bytes");
        for (int many : new int[] {0, 32, 63, 65, 96, 8192}) {
            h.put(3, Arrays.copyOf(NumberTest.point(NumberTest.G), many));
            Check.refused(h, "a point of " + many, () -> h.x.multiply(1, 3), House.BAD);
        }
        Check.promise(25, "BAD: no such row");
        for (int r : NO_ROWS) {
            Check.refused(h, "number " + r, () -> h.x.multiply(r, 2), House.BAD);
            Check.refused(h, "number " + r, () -> h.x.multiply(r, House.NONE), House.BAD);
        }
    }

    private static void oneRowForAll() throws Exception {
        byte[] bytes = {7, 5, 3};
        House h = new House().put(1, bytes);
        Check.promise(24, "one row as base, exponent and modulus");
        Check.same("power", h.x.power(1, 1, 1), 3);
        Check.same("OUT", h.out(), new byte[3]);
        Check.promise(26, "one row as secret, name, u and v");
        Check.same("derive", h.x.derive(1, 1, 1, 1, 64), 64);
        Check.same("OUT", h.out(), DigestTest.derive(bytes, bytes, bytes, bytes, 64));
    }

    private static void derive() throws Exception {
        Check.promise(26, "rows without bytes, and a full one");
        int[][] sizes = {{0, 0, 0, 0}, {1, 0, 0, 0}, {0, 1, 0, 0}, {0, 0, 1, 0}, {0, 0, 0, 1}, {32, 7, 5, 3}, {8192, 0, 1, 2}, {1, 2, 8192, 0}};
        for (int[] s : sizes) {
            byte[][] p = {Keys.bytes(s[0], 1), Keys.bytes(s[1], 2), Keys.bytes(s[2], 3), Keys.bytes(s[3], 4)};
            House h = new House().put(0, p[0]).put(1, p[1]).put(2, p[2]).put(7, p[3]);
            for (int many : new int[] {16, 32, 64}) {
                Check.same("derive of " + Arrays.toString(s), h.x.derive(0, 1, 2, 7, many), many);
                Check.same("OUT", h.out(), DigestTest.derive(p[0], p[1], p[2], p[3], many));
            }
        }
        Check.promise(26, "BAD: many is not 16, 32, 64");
        House h = House.lived();
        for (int many : new int[] {-16, -1, 0, 1, 15, 17, 24, 31, 33, 48, 63, 65, 128, Integer.MIN_VALUE, Integer.MAX_VALUE}) {
            Check.refused(h, "derive " + many, () -> h.x.derive(0, 1, 2, 3, many), House.BAD);
        }
        Check.promise(26, "BAD: no such row");
        for (int r : NO_ROWS) {
            Check.refused(h, "secret " + r, () -> h.x.derive(r, 1, 2, 3, 16), House.BAD);
            Check.refused(h, "name " + r, () -> h.x.derive(0, r, 2, 3, 16), House.BAD);
            Check.refused(h, "u " + r, () -> h.x.derive(0, 1, r, 3, 32), House.BAD);
            Check.refused(h, "v " + r, () -> h.x.derive(0, 1, 2, r, 64), House.BAD);
        }
    }
}
