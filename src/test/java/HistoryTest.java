import java.math.BigInteger;
import java.util.ArrayList;
import java.util.Arrays;
import java.util.List;
import java.util.Random;

/** What a call answers, and what it puts into OUT, follows from rows, keys and the text at hand alone, not from the calls before. */
public final class HistoryTest {
    private static final Random RANDOM = new Random(3);
    private static final String[] KEYS = {Keys.oct(Keys.bytes(64, 1), ""), Keys.oct(Keys.bytes(32, 2), ",\"kid\":\"a\""), Keys.oct(Keys.bytes(16, 3), ""), Keys.rsa(1024, 3, 1).text(true, ",\"kid\":\"a\""),
        Keys.rsa(601, 65537, 2).text(true, ""), Keys.ec(BigInteger.TEN, true, ""), Keys.ec(BigInteger.TWO, true, ",\"kid\":\"a longer kid, which says\\nmore\"")};
    private static final String[] TEXTS = {"[1,{\"a\":[null,true,\"\\u00e9\"]}]", "{\"a\":{\"b\":{\"c\":[]}},\"d\":-1.5e3}", "\"\\n\\u0001\"", "[[],{},[[1,2],3]]", "{\"alg\":\"HS256\"}", "{", "7",
        "{\"alg\":\"HS256\",\"crit\":[\"b64\"],\"b64\":false}", "{\"alg\":\"ES256\"}", "{\"alg\":\"PS256\",\"kid\":\"a\"}", "{\"alg\":\"none\",\"kid\":\"a\"}", "a", "AAAA"};
    /** What is mostly in a row. */
    private static final int TOKEN = 0, PAYLOAD = 1, DRAWN = 2, TEXT = 3, KEY = 4, FIRST = 5, POINT = 6, MADE = 7;
    private static final int NOTHING = -1, WRAP = 13, UNWRAP = 14, SEAL = 15, OPEN = 16;
    private static final List<byte[]> TOKENS = tokens();

    private final byte[][] rows = new byte[8][0];
    private final byte[][] keys = new byte[16][];
    private byte[] hand;
    private final House lived = new House();
    /** What was wrapped or sealed is unwrapped or opened by the very next call, with the same rows. */
    private int next = NOTHING;
    private int[] args = new int[7];

    public static void main(String[] args) {
        for (int run = 0; run < 30; run++) {
            new HistoryTest().run();
        }
        Check.end();
    }

    private static void tell(House h) {
        for (String key : KEYS) {
            h.put(0, key);
            h.x.key(0);
        }
    }

    private HistoryTest() {
        tell(lived);
        for (int k = 0; k < KEYS.length; k++) {
            keys[k] = House.bytes(KEYS[k]);
        }
    }

    /** Right tokens of all kinds. */
    private static List<byte[]> tokens() {
        List<byte[]> all = new ArrayList<>();
        House h = new House();
        tell(h);
        h.put(1, "payload").put(2, Keys.bytes(200, 9)).put(3, TEXTS[7]).put(4, "u");
        h.x.poke(2, 0, 128);
        for (int key = 0; key < KEYS.length; key++) {
            for (int alg = 0; alg < 6; alg++) {
                add(all, h, alg < 5 ? h.x.sign(key, alg, -1, 1, 2) : h.x.sign(key, 0, 3, 1, 2));
                for (int way = 0; way < 4; way++) {
                    add(all, h, h.x.encrypt(key, alg, way, 1, 2, way % 2 == 0 ? -1 : 4, way < 2 ? -1 : 4));
                }
            }
        }
        Check.that("tokens of all kinds", all.size() > 40);
        return all;
    }

    private static void add(List<byte[]> all, House h, int answer) {
        if (answer > 0) {
            all.add(h.out());
        }
    }

    private void fill(int r, byte[] bytes) {
        rows[r] = bytes;
        lived.put(r, bytes);
    }

    /** Mostly what calls want to find in this row. */
    private static byte[] content(int r) {
        switch (RANDOM.nextInt(8) == 0 ? RANDOM.nextInt(8) : r) {
            case TOKEN: return TOKENS.get(RANDOM.nextInt(TOKENS.size()));
            case PAYLOAD: return Keys.bytes(RANDOM.nextInt(4) == 0 ? 6000 + RANDOM.nextInt(2193) : 16 + 8 * RANDOM.nextInt(8), RANDOM.nextInt());
            case DRAWN: return Keys.bytes(150, RANDOM.nextInt());
            case TEXT: return House.bytes(TEXTS[RANDOM.nextInt(TEXTS.length)]);
            case KEY: return Keys.bytes(new int[] {16, 32, 64}[RANDOM.nextInt(3)], RANDOM.nextInt());
            case FIRST: return Keys.bytes(new int[] {12, 16}[RANDOM.nextInt(2)], RANDOM.nextInt());
            case POINT: return NumberTest.point(NumberTest.times(BigInteger.valueOf(1 + RANDOM.nextInt(9)), NumberTest.G));
            default: return House.bytes(KEYS[RANDOM.nextInt(KEYS.length)]);
        }
    }

    private void run() {
        for (int r = 0; r < 8; r++) {
            fill(r, content(r));
        }
        for (int step = 0; step < 60; step++) {
            call();
            if (RANDOM.nextInt(3) == 0) {
                int r = RANDOM.nextInt(8);
                fill(r, content(r));
            }
        }
    }

    /** With the same rows, keys and text at hand, and no past. */
    private House fresh() {
        House h = new House();
        for (byte[] key : keys) {
            h.put(0, key == null ? House.bytes(KEYS[2]) : key);
            h.x.key(0);
        }
        for (int k = 0; k < 16; k++) {
            if (keys[k] == null) {
                h.x.drop(k);
            }
        }
        if (hand != null) {
            h.put(0, hand);
            h.x.json(0);
        }
        for (int r = 0; r < 8; r++) {
            h.put(r, rows[r]);
        }
        return h;
    }

    private void call() {
        int kind = next == NOTHING ? RANDOM.nextInt(28) : next;
        int[] a = next == NOTHING ? RANDOM.ints(7, 0, 80).toArray() : args;
        House fresh = fresh();
        int answer = answer(lived.x, kind, a);
        String what = "call " + kind + " of " + Arrays.toString(a);
        Check.same(what, answer, answer(fresh.x, kind, a));
        next = answer > 0 && kind == WRAP ? UNWRAP : answer > 0 && kind == SEAL ? OPEN : NOTHING;
        args = a;
        if (answer < 0) {
            return;
        }
        switch (kind) {
            case 0: keys[answer] = rows[row(MADE, a[0])]; break;
            case 1: keys[a[0] % 16] = null; break;
            case 2: hand = rows[row(TEXT, a[0])]; break;
            case 3: case 6: case 21: break;
            default:
                Check.same("OUT of " + what, lived.out(), fresh.out());
                lived.x.keep(MADE);
                rows[MADE] = lived.out();
        }
    }

    /** The row for this, or now and then any other. */
    private static int row(int mostly, int chance) {
        return chance < 8 ? chance : mostly;
    }

    private static int answer(SealedTokens x, int kind, int[] a) {
        int none = a[6] % 2 == 0 ? House.NONE : row(TEXT, a[5]);
        int bits = a[6] % 2 == 0 ? 256 : 512;
        int any = a[0] % 8;
        switch (kind) {
            case 0: return x.key(row(MADE, a[0]));
            case 1: return a[1] < 20 ? x.drop(a[0] % 16) : House.NONE;
            case 2: return x.json(row(TEXT, a[0]));
            case 3: return x.value(any, a[1] % 5);
            case 4: return x.text(any);
            case 5: return x.name(any);
            case 6: return x.member(0, row(TEXT, a[1]));
            case 7: return x.write(any % 3);
            case 8: return x.encode(any);
            case 9: return x.decode(row(MADE, a[0]));
            case 10: return x.hash(bits, any);
            case 11: return x.code(bits, row(KEY, a[0]), row(PAYLOAD, a[2]));
            case 12: return x.block(row(KEY, a[0]), row(FIRST, a[1]), a[2] % 2 == 0);
            case WRAP: return x.wrap(row(KEY, a[0]), row(PAYLOAD, a[1]));
            case UNWRAP: return x.unwrap(row(KEY, a[0]), MADE);
            case SEAL: return x.seal(a[0] % 4, row(KEY, a[1]), row(FIRST, a[2]), row(TEXT, a[3]), row(PAYLOAD, a[4]));
            case OPEN: return x.open(a[0] % 4, row(KEY, a[1]), row(FIRST, a[2]), row(TEXT, a[3]), MADE);
            case 17: return x.power(row(FIRST, a[0]), row(KEY, a[1]), row(POINT, a[2]));
            case 18: return x.multiply(row(KEY, a[0]), a[6] % 2 == 0 ? House.NONE : row(POINT, a[1]));
            case 19: return x.derive(row(KEY, a[0]), row(TEXT, a[1]), row(PAYLOAD, a[2]), row(FIRST, a[3]), 16 << a[4] % 3);
            case 20: return x.print(any);
            case 21: return x.told(any, a[1] % 6);
            case 22: case 23: return x.sign(any, a[1] % 5, none, row(PAYLOAD, a[2]), row(DRAWN, a[3]));
            case 24: return x.encrypt(any, a[1] % 6, a[2] % 4, row(PAYLOAD, a[3]), row(DRAWN, a[4]), none, House.NONE);
            case 25: return x.decrypt(a[1] < 40 ? TOKEN : row(MADE, a[0]));
            default: return x.verify(a[1] < 40 ? TOKEN : row(MADE, a[0]));
        }
    }
}
