import java.math.BigInteger;
import java.util.Arrays;
import java.util.Random;

/** Runs of calls by chance: none throws, a refusal changes nothing, and another call only what it is for. */
public final class AnyCallTest {
    private static final Random RANDOM = new Random(512);
    private static final String[] KEYS = {Keys.oct(Keys.bytes(64, 1), ",\"kid\":\"a\""), Keys.oct(Keys.bytes(32, 2), ""), Keys.oct(Keys.bytes(16, 3), ",\"use\":\"enc\""), Keys.rsa(1024, 3, 1).text(true, ""),
        Keys.rsa(529, 3, 2).text(true, ",\"alg\":\"PS256\""), Keys.ec(BigInteger.TEN, true, ",\"kid\":\"a\""), Keys.ec(BigInteger.TWO, false, "")};
    private static final String[] HEADS = {"{\"alg\":\"HS256\"}", "{\"alg\":\"ES256\",\"crit\":[\"b64\"],\"b64\":false}", "{\"alg\":\"RS256\",\"kid\":\"a\"}", "{\"alg\":\"none\"}", "[1,{\"a\":[null,true,\"\\u00e9\"]}]", "{"};
    private static int[] args = new int[7];
    private static int many;

    public static void main(String[] ignored) {
        for (int run = 0; run < 120; run++) {
            run(run);
        }
        Check.end();
    }

    private static void run(int run) {
        House h = new House();
        for (int r = 0; r < 8; r++) {
            h.put(r, content());
        }
        for (int k = 0; k < 4; k++) {
            h.put(0, KEYS[RANDOM.nextInt(KEYS.length)]);
            h.x.key(0);
        }
        String[] before = State.of(h.x);
        for (int step = 0; step < 400; step++) {
            int kind = RANDOM.nextInt(33);
            int answer = 0;
            try {
                answer = call(h.x, kind);
            } catch (RuntimeException | Error e) {
                Check.that("call " + kind + " of " + Arrays.toString(args) + " threw " + e, false);
            }
            String[] after = State.of(h.x);
            for (int part = 0; part < before.length; part++) {
                if (!before[part].equals(after[part])) {
                    Check.that("run " + run + ": call " + kind + " of " + Arrays.toString(args) + " answered " + answer + " and changed part " + part, answer >= 0 && mayChange(kind, part));
                }
            }
            Check.that("call " + kind + " answered " + answer, answer >= -8292 && answer <= 8192);
            before = after;
            if (RANDOM.nextInt(4) == 0) {
                h.put(RANDOM.nextInt(8), content());
                before = State.of(h.x);
            }
        }
    }

    private static byte[] content() {
        switch (RANDOM.nextInt(9)) {
            case 0: return House.bytes(KEYS[RANDOM.nextInt(KEYS.length)]);
            case 1: return House.bytes(HEADS[RANDOM.nextInt(HEADS.length)]);
            case 2: return Keys.bytes(new int[] {12, 16, 24, 32, 64}[RANDOM.nextInt(5)], RANDOM.nextInt());
            case 3: return Keys.bytes(RANDOM.nextInt(200), RANDOM.nextInt());
            case 4: return Keys.bytes(8192 - RANDOM.nextInt(60), RANDOM.nextInt());
            case 5: return NumberTest.point(NumberTest.times(BigInteger.valueOf(1 + RANDOM.nextInt(9)), NumberTest.G));
            case 6: return House.bytes(House.letters(HEADS[RANDOM.nextInt(HEADS.length)]) + "." + "AA".repeat(RANDOM.nextInt(3)) + "." + "AAAA".repeat(RANDOM.nextInt(30)));
            case 7: return House.bytes(House.letters("{\"alg\":\"" + Maker.SEALED[RANDOM.nextInt(6)] + "\",\"enc\":\"" + Maker.WAYS[RANDOM.nextInt(4)] + "\"}") + "." + "A".repeat(4 * RANDOM.nextInt(60)) + ".AAAAAAAAAAAAAAAA.AAAA.AAAAAAAAAAAAAAAAAAAAAA");
            default: return new byte[0];
        }
    }

    /** Mostly a number that may be one. */
    private static int any(int most) {
        many++;
        int x = RANDOM.nextInt(12) == 0 ? new int[] {-1, -2, most + 1, most + 2, Integer.MIN_VALUE, Integer.MAX_VALUE, 600, 8192}[RANDOM.nextInt(8)] : RANDOM.nextInt(most + 1);
        args[(many - 1) % 7] = x;
        return x;
    }

    private static int row() {
        return any(7);
    }

    private static int call(SealedTokens x, int kind) {
        many = 0;
        Arrays.fill(args, 0);
        switch (kind) {
            case 0: return x.feed(any(9), any(9), any(9), any(9), any(9));
            case 1: return x.end(any(40));
            case 2: return x.row(row());
            case 3: return x.keep(row());
            case 4: return x.poke(row(), any(40), any(255));
            case 5: return x.size(row());
            case 6: return x.out(any(100));
            case 7: return x.json(row());
            case 8: return x.value(any(5), any(4));
            case 9: return x.text(any(5));
            case 10: return x.name(any(5));
            case 11: return x.member(any(5), row());
            case 12: return x.write(any(5));
            case 13: return x.encode(row());
            case 14: return x.decode(row());
            case 15: return x.hash(256 * any(2), row());
            case 16: return x.code(256 * any(2), row(), row());
            case 17: return x.block(row(), row(), RANDOM.nextBoolean());
            case 18: return x.wrap(row(), row());
            case 19: return x.unwrap(row(), row());
            case 20: return x.seal(any(3), row(), row(), row(), row());
            case 21: return x.open(any(3), row(), row(), row(), row());
            case 22: return x.power(row(), row(), row());
            case 23: return x.multiply(row(), RANDOM.nextBoolean() ? -1 : row());
            case 24: return x.derive(row(), row(), row(), row(), 16 << any(2));
            case 25: return x.key(row());
            case 26: return RANDOM.nextInt(4) == 0 ? x.drop(any(15)) : -1;
            case 27: return x.told(any(6), any(5));
            case 28: return x.print(any(6));
            case 29: return x.sign(any(6), any(4), RANDOM.nextBoolean() ? -1 : row(), row(), row());
            case 30: return x.verify(row());
            case 31: return x.encrypt(any(6), any(5), any(3), row(), row(), RANDOM.nextBoolean() ? -1 : row(), RANDOM.nextBoolean() ? -1 : row());
            default: return x.decrypt(row());
        }
    }

    /** The parts are those of State. */
    private static boolean mayChange(int kind, int part) {
        switch (kind) {
            case 0: case 1: return part == 0;
            case 2: return part == 0 || part == 4;
            case 3: case 4: return part == 4;
            case 7: return part == 2;
            case 25: case 26: return part == 3;
            case 5: case 6: case 8: case 11: case 27: return false;
            default: return part == 1;
        }
    }
}
