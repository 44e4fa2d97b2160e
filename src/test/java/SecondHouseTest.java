import java.math.BigInteger;
import java.util.ArrayList;
import java.util.Arrays;
import java.util.Collections;
import java.util.List;
import java.util.Map;
import java.util.Random;
import java.util.TreeMap;

/**
 * All promises: runs by chance of the class and of the document written down a second time answer alike, and leave the same OUT,
 * rows, tape, text at hand and keys. Arguments: the first seed and how many runs.
 */
public final class SecondHouseTest {
    private static final int NONE = House.NONE;
    /** What is mostly in a row. */
    private static final int TOKEN = 0, PAYLOAD = 1, DRAWN = 2, HEAD = 3, KEY = 4, FIRST = 5, POINT = 6, MADE = 7;
    private static final Keys[] RSA = {Keys.rsa(505, 3, 1), Keys.rsa(512, 5, 2), Keys.rsa(528, 3, 3), Keys.rsa(529, 17, 4), Keys.rsa(536, 3, 5), Keys.rsa(656, 3, 6),
        Keys.rsa(784, 65537, 7), Keys.rsa(777, 3, 8), Keys.rsa(1024, 65537, 9), Keys.rsa(1017, 3, 10), Keys.rsa(1025, 3, 11), Keys.rsa(504, 3, 12)};
    private static final String[] CALLS = ("feed end row keep keep poke size out json json value value value text text name name member member write write encode decode decode hash code block wrap wrap unwrap unwrap "
        + "seal seal open open power multiply derive key key key key drop told told print sign sign sign sign verify verify verify verify verify verify encrypt encrypt encrypt encrypt decrypt decrypt decrypt decrypt decrypt decrypt").split(" ");
    /** What must have been answered at least once, so that the runs are worth something: >= 0 is 0 here. */
    static final Map<String, int[]> DUE = due();
    private static final Map<String, Map<Integer, Integer>> SEEN = new TreeMap<>();

    private final Random random;
    private final SealedTokens first = new SealedTokens();
    private final SecondHouse second = new SecondHouse();
    private final List<String> told = new ArrayList<>();
    private int wrong = 0;

    private SecondHouseTest(long seed) {
        random = new Random(seed);
    }

    public static void main(String[] args) throws Exception {
        long from = args.length > 0 ? Long.parseLong(args[0]) : 1;
        int runs = args.length > 1 ? Integer.parseInt(args[1]) : 150;
        for (long seed = from; seed < from + runs; seed++) {
            new SecondHouseTest(seed).run(seed);
        }
        for (Map.Entry<String, int[]> due : DUE.entrySet()) {
            for (int answer : due.getValue()) {
                Check.that(due.getKey() + " never answered " + answer, SEEN.get(due.getKey()).containsKey(answer));
            }
            for (int answer : SEEN.get(due.getKey()).keySet()) {
                boolean none = answer == NONE && (due.getKey().equals("value") || due.getKey().equals("told"));
                Check.that(due.getKey() + " answered " + answer, answer <= -100 || none || Arrays.stream(due.getValue()).anyMatch(d -> d == answer));
            }
        }
        if (args.length > 0) {
            System.out.println(SEEN);
        }
        Check.end();
    }

    private static Map<String, int[]> due() {
        Map<String, int[]> due = new TreeMap<>();
        for (String name : CALLS) {
            due.put(name, new int[] {0, House.BAD});
        }
        due.put("out", new int[] {0, NONE});
        due.put("member", new int[] {0, NONE, House.BAD});
        due.put("encode", new int[] {0, House.BAD, House.LARGE});
        due.put("json", new int[] {0, House.BAD, -100, -101, -102});
        due.put("decode", new int[] {0, House.BAD, -100, -101, -102});
        due.put("unwrap", new int[] {0, NONE, House.BAD});
        due.put("seal", new int[] {0, House.BAD, House.LARGE});
        due.put("open", new int[] {0, NONE, House.BAD});
        due.put("multiply", new int[] {0, NONE, House.BAD});
        due.put("key", new int[] {0, House.BAD, -11, -12, -13, -14, -15, -16, -17});
        due.put("sign", new int[] {0, House.BAD, House.KEY, House.TEXT, House.HEAD, House.NAMES, House.ALG, House.WRONG, House.POINT, House.RANDOM, House.LARGE});
        due.put("verify", new int[] {0, House.BAD, House.FORM, House.PART, House.TEXT, House.HEAD, House.NAMES, House.ALG, House.KEY, House.WRONG});
        due.put("encrypt", new int[] {0, House.BAD, House.KEY, House.RANDOM, House.LARGE});
        due.put("decrypt", due.get("verify"));
        return due;
    }

    // ---- a run

    private void run(long seed) throws Exception {
        for (int r = 0; r < 8; r++) {
            fill(r);
        }
        for (int k = random.nextInt(20); k > 0; k--) {
            put(KEY, House.bytes(keyText(0)));
            both("key", KEY);
        }
        for (int step = 0; step < 90 && wrong == 0; step++) {
            if (random.nextInt(2) == 0) {
                fill(random.nextInt(8));
            }
            step(CALLS[random.nextInt(CALLS.length)]);
        }
        if (wrong == 0) {
            compareAll();
        }
        if (wrong > 0) {
            System.out.println("seed " + seed + ", the last calls: " + told.subList(Math.max(0, told.size() - 12), told.size()));
        }
    }

    private void step(String name) throws Exception {
        if (name.equals("feed") && seldom(9)) {
            put(MADE, bytes(8160 + random.nextInt(33)), false);
        }
        if (name.equals("seal") && !seldom(3)) {
            int way = random.nextInt(4);
            put(DRAWN, bytes(Maker.KEY[way]));
            put(FIRST, bytes(Maker.FIRST[way]));
            follow(name, way, DRAWN, FIRST, row(HEAD), row(PAYLOAD));
            return;
        }
        if ((name.equals("verify") || name.equals("decrypt")) && !seldom(6)) {
            put(TOKEN, mutated(name.equals("verify") ? signedToken() : sealedToken()));
        }
        int[] a = arguments(name);
        if (name.equals("sign") && !seldom(3)) {
            put(HEAD, House.bytes(signedHead(Maker.SIGNED[Math.floorMod(a[1], 5)])));
            put(PAYLOAD, seldom(3) ? House.bytes("a.b") : content(PAYLOAD));
        }
        follow(name, a);
    }

    /** What was made is mostly taken apart again, now and then with a byte changed. */
    private void follow(String name, int... a) throws Exception {
        if (both(name, a) < 0 || !List.of("seal", "wrap", "sign", "encrypt").contains(name) || seldom(4)) {
            return;
        }
        both("keep", MADE);
        if (seldom(4)) {
            both("poke", MADE, random.nextInt(second.rows[MADE].length), pick(1, 2, 16, 128));
        }
        switch (name) {
            case "seal": both("open", a[0], a[1], a[2], a[3], MADE); break;
            case "wrap": both("unwrap", a[0], MADE); break;
            case "sign": both("verify", MADE); break;
            default: both("decrypt", MADE); break;
        }
    }

    private int both(String name, int... a) throws Exception {
        int due = second.call(name, a);
        int got = call(first, name, a);
        String what = name + Arrays.toString(a);
        told.add(what + " = " + got);
        ask(what, got == due, got + ", due is " + due);
        SEEN.computeIfAbsent(name, n -> new TreeMap<>()).merge(Math.min(due, 0), 1, Integer::sum);
        ask("OUT of " + what, Arrays.equals(out(), second.out), "");
        return due;
    }

    private void ask(String what, boolean holds, String more) {
        Check.that(what + " " + more, holds);
        wrong += holds ? 0 : 1;
    }

    private byte[] out() {
        byte[] bytes = new byte[first.size(-1)];
        for (int i = 0; i < bytes.length; i++) {
            bytes[i] = (byte) first.out(i);
        }
        return bytes;
    }

    /** By calls alone: a tape becomes a row, and rows are seen by their digests. */
    private void compareAll() throws Exception {
        for (int r = 0; r < 8; r++) {
            both("size", r);
            both("hash", 256, r);
        }
        both("row", 0);
        both("hash", 256, 0);
        for (int k = -1; k < 17; k++) {
            for (int what = -1; what < 7; what++) {
                both("told", k, what);
            }
            both("print", k);
        }
        int values = second.hand == null ? 0 : second.hand.values.size();
        for (int i = -1; i <= Math.min(values, 40); i++) {
            for (int what = -1; what < 6; what++) {
                both("value", i, what);
            }
            both("text", i);
            both("name", i);
            both("write", i);
        }
    }

    private void put(int r, byte[] bytes) throws Exception {
        put(r, bytes, true);
    }

    private void put(int r, byte[] bytes, boolean asRow) throws Exception {
        int front = bytes.length % 20;
        both("end", 0);
        for (int i = front == 0 ? 0 : front - 20; i < bytes.length; i += 20) {
            byte[] piece = i < 0 ? Arrays.copyOf(bytes, front) : Arrays.copyOfRange(bytes, i, i + 20);
            int[] words = new int[5];
            for (int j = 0; j < 20; j++) {
                words[j / 4] = words[j / 4] << 8 | (j < piece.length ? piece[j] & 255 : 0);
            }
            first.feed(words[0], words[1], words[2], words[3], words[4]);
            second.call("feed", words);
            if (i < 0) {
                both("end", front);
            }
        }
        ask("the tape", second.tape.length == bytes.length, "took not all");
        if (asRow) {
            both("row", r);
        }
    }

    private void fill(int r) throws Exception {
        put(r, content(random.nextInt(10) == 0 ? random.nextInt(8) : r));
    }

    // ---- what calls are given

    private int pick(int... any) {
        return any[random.nextInt(any.length)];
    }

    private String pick(String... any) {
        return any[random.nextInt(any.length)];
    }

    private boolean seldom(int one) {
        return random.nextInt(one) == 0;
    }

    private int row(int mostly) {
        return seldom(60) ? pick(-1, -2, 8, 9, Integer.MIN_VALUE, Integer.MAX_VALUE) : seldom(8) ? random.nextInt(8) : mostly;
    }

    private int below(int most) {
        return seldom(25) ? pick(-1, most, -2, most + 1, Integer.MIN_VALUE, Integer.MAX_VALUE) : random.nextInt(most);
    }

    private int key() {
        int k = below(16);
        for (int i = 0; i < 16 && k >= 0 && k < 16 && second.keys[k] == null; i++) {
            k = random.nextInt(16);
        }
        return k;
    }

    private int value() {
        return below(second.hand == null ? 3 : Math.min(second.hand.values.size(), 12));
    }

    private int noneOr(int row) {
        return random.nextBoolean() ? NONE : row;
    }

    private int[] arguments(String name) {
        return switch (name) {
            case "feed" -> new int[] {random.nextInt(), random.nextInt(), random.nextInt(), random.nextInt(), random.nextInt()};
            case "end" -> new int[] {pick(0, second.tape.length, second.tape.length + 1, -1, random.nextInt(25))};
            case "row", "keep" -> new int[] {row(MADE)};
            case "poke" -> poke();
            case "size" -> new int[] {pick(-2, -1, 0, 3, 7, 8)};
            case "out" -> new int[] {pick(-1, 0, second.out.length - 1, second.out.length, random.nextInt(40))};
            case "json" -> new int[] {row(pick(HEAD, HEAD, KEY, MADE))};
            case "value" -> new int[] {value(), below(5)};
            case "text", "name", "write" -> new int[] {value()};
            case "member" -> member();
            case "encode" -> new int[] {row(random.nextInt(8))};
            case "decode" -> new int[] {row(random.nextBoolean() ? MADE : random.nextInt(8))};
            case "hash" -> new int[] {pick(256, 512, 256, 512, 0, 255), row(random.nextInt(8))};
            case "code" -> new int[] {pick(256, 512, 256, 512, -1, 384), row(KEY), row(random.nextInt(8))};
            case "block" -> new int[] {row(DRAWN), row(FIRST), random.nextInt(2)};
            case "wrap" -> new int[] {row(DRAWN), row(PAYLOAD)};
            case "unwrap" -> new int[] {row(DRAWN), row(MADE)};
            case "seal", "open" -> new int[] {below(4), row(DRAWN), row(FIRST), row(HEAD), row(name.equals("seal") ? PAYLOAD : MADE)};
            case "power" -> new int[] {row(POINT), row(FIRST), row(pick(DRAWN, POINT, FIRST))};
            case "multiply" -> new int[] {row(DRAWN), noneOr(row(POINT))};
            case "derive" -> new int[] {row(DRAWN), row(FIRST), row(HEAD), row(PAYLOAD), pick(16, 32, 64, 16, 32, 64, 0, 24, 128)};
            case "key" -> new int[] {row(KEY)};
            case "drop", "print" -> new int[] {key()};
            case "told" -> new int[] {key(), below(6)};
            case "sign" -> sign();
            case "verify", "decrypt" -> new int[] {row(seldom(5) ? MADE : TOKEN)};
            case "encrypt" -> encrypt();
            default -> throw new IllegalArgumentException(name);
        };
    }

    private int[] poke() {
        int r = row(pick(TOKEN, MADE, HEAD));
        int many = r >= 0 && r < 8 ? second.rows[r].length : 1;
        return new int[] {r, below(Math.max(many, 1)), seldom(9) ? pick(-1, 256) : pick(0, 1, 2, 3, 32, 255, 14)};
    }

    private int[] member() {
        return new int[] {seldom(3) ? value() : 0, row(MADE)};
    }

    private int[] sign() {
        int k = key();
        SecondHouse.Key its = k >= 0 && k < 16 ? second.keys[k] : null;
        int listed = its == null ? NONE : Arrays.asList(Maker.SIGNED).indexOf(its.alg());
        int alg = listed >= 0 && !seldom(5) ? listed : its == null || seldom(5) ? below(5) : its.k() != null ? random.nextInt(2) : its.n() != null ? 2 + random.nextInt(2) : 4;
        return new int[] {k, alg, noneOr(row(HEAD)), row(PAYLOAD), row(DRAWN)};
    }

    private int[] encrypt() {
        int k = key();
        SecondHouse.Key its = k >= 0 && k < 16 ? second.keys[k] : null;
        int listed = its == null ? NONE : Arrays.asList(Maker.SEALED).indexOf(its.alg());
        int alg = listed >= 0 && !seldom(5) ? listed : its == null || seldom(5) ? below(6) : its.k() != null ? random.nextInt(3) : its.n() != null ? 3 : 4 + random.nextInt(2);
        return new int[] {k, alg, below(4), row(PAYLOAD), row(DRAWN), noneOr(row(FIRST)), noneOr(row(pick(FIRST, POINT)))};
    }

    private static int call(SealedTokens x, String name, int[] a) {
        return switch (name) {
            case "feed" -> x.feed(a[0], a[1], a[2], a[3], a[4]);
            case "end" -> x.end(a[0]);
            case "row" -> x.row(a[0]);
            case "keep" -> x.keep(a[0]);
            case "poke" -> x.poke(a[0], a[1], a[2]);
            case "size" -> x.size(a[0]);
            case "out" -> x.out(a[0]);
            case "json" -> x.json(a[0]);
            case "value" -> x.value(a[0], a[1]);
            case "text" -> x.text(a[0]);
            case "name" -> x.name(a[0]);
            case "member" -> x.member(a[0], a[1]);
            case "write" -> x.write(a[0]);
            case "encode" -> x.encode(a[0]);
            case "decode" -> x.decode(a[0]);
            case "hash" -> x.hash(a[0], a[1]);
            case "code" -> x.code(a[0], a[1], a[2]);
            case "block" -> x.block(a[0], a[1], a[2] != 0);
            case "wrap" -> x.wrap(a[0], a[1]);
            case "unwrap" -> x.unwrap(a[0], a[1]);
            case "seal" -> x.seal(a[0], a[1], a[2], a[3], a[4]);
            case "open" -> x.open(a[0], a[1], a[2], a[3], a[4]);
            case "power" -> x.power(a[0], a[1], a[2]);
            case "multiply" -> x.multiply(a[0], a[1]);
            case "derive" -> x.derive(a[0], a[1], a[2], a[3], a[4]);
            case "key" -> x.key(a[0]);
            case "drop" -> x.drop(a[0]);
            case "told" -> x.told(a[0], a[1]);
            case "print" -> x.print(a[0]);
            case "sign" -> x.sign(a[0], a[1], a[2], a[3], a[4]);
            case "verify" -> x.verify(a[0]);
            case "encrypt" -> x.encrypt(a[0], a[1], a[2], a[3], a[4], a[5], a[6]);
            case "decrypt" -> x.decrypt(a[0]);
            default -> throw new IllegalArgumentException(name);
        };
    }

    // ---- what rows are given

    private byte[] bytes(int many) {
        byte[] bytes = new byte[many];
        random.nextBytes(bytes);
        return bytes;
    }

    private byte[] content(int role) throws Exception {
        return switch (role) {
            case TOKEN -> mutated(random.nextBoolean() ? signedToken() : sealedToken());
            case PAYLOAD -> seldom(6) ? bytes(8192 - random.nextInt(seldom(2) ? 50 : 2200)) : seldom(3) ? House.bytes(pick("a.b", "payload", "", ".", "no point")) : bytes(pick(0, 1, 16, 24, 32, 40, 48, 56, 64, 72, 17, 8));
            case DRAWN -> drawn();
            case HEAD -> House.bytes(seldom(3) ? jsonText() : signedHead(Maker.SIGNED[random.nextInt(5)]));
            case KEY -> House.bytes(keyText(12));
            case FIRST -> seldom(6) ? bytes(random.nextInt(140)) : bytes(pick(12, 16, 12, 16, 0, 32));
            case POINT -> point();
            default -> seldom(3) ? House.bytes(pick("a", "alg", "kty", "", "kid", "x", "AA", "AB", "AAAAA", "A+", "AAA")) : House.bytes(House.letters(bytes(random.nextInt(12))));
        };
    }

    private byte[] drawn() {
        return switch (random.nextInt(12)) {
            case 0 -> NumberTest.fixed(NumberTest.N.add(BigInteger.valueOf(random.nextInt(3) - 1)), 32);
            case 1 -> House.join(new byte[32], bytes(random.nextInt(100)));
            case 2 -> House.join(NumberTest.fixed(NumberTest.N.subtract(BigInteger.ONE), 32), bytes(random.nextInt(100)));
            case 3 -> bytes(random.nextInt(150));
            case 4, 5, 6, 7 -> bytes(pick(16, 32, 64));
            default -> bytes(200);
        };
    }

    private byte[] point() {
        BigInteger[] p = NumberTest.times(BigInteger.valueOf(1 + random.nextInt(20)), NumberTest.G);
        byte[] xy = NumberTest.point(seldom(4) ? new BigInteger[] {p[0], NumberTest.P.subtract(p[1])} : p);
        if (seldom(5)) {
            xy[random.nextInt(64)] ^= 1;
        }
        return seldom(8) ? Arrays.copyOf(xy, pick(0, 32, 63, 65, 128)) : xy;
    }

    /** As members of an object, in any order and with blanks. */
    private String object(List<String> members) {
        Collections.shuffle(members, random);
        String blank = seldom(3) ? pick(" ", "\n", "\t", "\r\n  ") : "";
        return "{" + blank + String.join(blank + "," + blank, members) + blank + "}";
    }

    private static String quoted(String said) {
        return "\"" + said + "\"";
    }

    private void may(List<String> to, int one, String name, String... values) {
        if (seldom(one)) {
            to.add("\"" + name + "\":" + pick(values));
        }
    }

    private String number(BigInteger x) {
        return Keys.letters(x);
    }

    /** One in so many has a fault; 0: none. */
    private boolean faulty(int one) {
        return one > 0 && seldom(one);
    }

    private String letters(String right, int one) {
        return faulty(one) ? pick("", "A", "AB", "A=", "AA" + right, right + "A", right + "AAAA", "7", "!") : right;
    }

    private String keyText(int one) {
        List<String> members = new ArrayList<>();
        int kind = random.nextInt(3);
        String kty = kind == 0 ? "oct" : kind == 1 ? "RSA" : "EC";
        if (!faulty(one * 2)) {
            members.add("\"" + pick("kty", "kty", "k\\u0074y") + "\":" + (faulty(one * 2) ? pick("\"Oct\"", "1", "null", "\"\"") : quoted(kty)));
        }
        switch (kind) {
            case 0: members.add("\"k\":" + quoted(letters(House.letters(Keys.bytes(pick(16, 32, 64, 16, 32, 64, 1, 31, 33, 63, 65, 128, one == 0 ? 64 : 129), random.nextInt(2))), one))); break;
            case 1: rsaMembers(members, one); break;
            default: curveMembers(members, one); break;
        }
        may(members, 2, "kid", "\"a\"", "\"b\"", "\"\\u0061\"", "\"\"", "\"\u00c3\u00a9\\n\\u0001\\\"\"", faulty(one) ? "7" : "\"a\"");
        may(members, 3, "use", "\"sig\"", "\"enc\"", "\"sig\"", "\"enc\"", "\"sig \"", faulty(one) ? "null" : "\"sig\"");
        may(members, 4, "alg", "\"none\"", faulty(one) ? "[]" : quoted(pick(Maker.SIGNED)), quoted(fitting(kind)), quoted(fitting(kind)), quoted(fitting(kind)));
        may(members, 8, "ext", "true", "{\"a\":[1,2,{}]}");
        may(members, 12, kind == 0 ? "d" : "k", "5", "\"AA\"");
        String text = object(members);
        return faulty(one) ? pick("[" + text + "]", text + ",", text.substring(1), " " + text + "\n", "\"" + kty + "\"", text.replace("\":", "\" :"), "") : text;
    }

    /** An alg of its kind of key. */
    private String fitting(int kind) {
        return switch (kind) {
            case 0 -> pick("HS256", "HS512", "dir", "A128KW", "A256KW");
            case 1 -> pick("RS256", "PS256", "RSA-OAEP-256");
            default -> pick("ES256", "ECDH-ES", "ECDH-ES+A128KW");
        };
    }

    private void rsaMembers(List<String> members, int one) {
        Keys k = RSA[random.nextInt(one == 0 ? 10 : RSA.length)];
        BigInteger n = faulty(one * 2) ? k.n.subtract(BigInteger.ONE) : k.n;
        BigInteger e = faulty(one) ? BigInteger.valueOf(pick(0, 1, 2, 4)) : faulty(one * 2) ? k.n.add(BigInteger.valueOf(pick(-2, 0, 2))) : k.e;
        BigInteger d = faulty(one) ? BigInteger.valueOf(pick(0, 1, 3)) : faulty(one) ? k.d.add(BigInteger.TWO) : faulty(one) ? k.n.add(BigInteger.ONE) : k.d;
        members.add("\"n\":" + quoted(letters(faulty(one * 2) ? House.letters(House.join(new byte[1], Keys.plain(n))) : number(n), one * 2)));
        members.add("\"e\":" + quoted(letters(number(e), one * 2)));
        if (!seldom(4)) {
            members.add("\"d\":" + (faulty(one * 3) ? "null" : quoted(letters(number(d), one * 2))));
        }
    }

    private void curveMembers(List<String> members, int one) {
        BigInteger d = BigInteger.valueOf(1 + random.nextInt(3));
        BigInteger[] p = NumberTest.times(d, NumberTest.G);
        BigInteger x = faulty(one) ? p[0].add(BigInteger.valueOf(pick(1, -1))) : p[0];
        BigInteger y = faulty(one) ? NumberTest.P.subtract(p[1]) : p[1];
        BigInteger its = faulty(one) ? pickNumber(BigInteger.ZERO, NumberTest.N, NumberTest.N.subtract(d), d.add(NumberTest.N)) : d;
        if (!faulty(one * 2)) {
            members.add("\"crv\":" + (faulty(one) ? pick("\"P-384\"", "256") : "\"P-256\""));
        }
        members.add("\"x\":" + quoted(letters(House.letters(NumberTest.fixed(x, faulty(one) ? 33 : 32)), one * 2)));
        members.add("\"y\":" + quoted(letters(House.letters(NumberTest.fixed(y, 32)), one * 2)));
        if (!seldom(4)) {
            members.add("\"d\":" + (faulty(one * 3) ? "{}" : quoted(letters(House.letters(NumberTest.fixed(its, 32)), one * 2))));
        }
    }

    private BigInteger pickNumber(BigInteger... any) {
        return any[random.nextInt(any.length)];
    }

    private void addCommon(List<String> members) {
        may(members, 3, "kid", "\"a\"", "\"b\"", "\"\\u0061\"", "\"c\"", "\"\"", seldom(4) ? "null" : "\"a\"");
        may(members, 9, "typ", "\"JWT\"", "5", "{\"crit\":[]}");
    }

    private String broken(String text) {
        return seldom(16) ? pick("[" + text + "]", text + "x", "", "\"x\"", text.substring(1), text.replace("\"", "'"), " " + text) : text;
    }

    private String signedHead(String alg) {
        List<String> members = new ArrayList<>();
        if (!seldom(25)) {
            members.add("\"" + pick("alg", "a\\u006cg") + "\":" + (seldom(12) ? pick("\"none\"", "\"HS384\"", "1", "\"dir\"", "\"\"", "\"hs256\"") : quoted(alg)));
        }
        addCommon(members);
        may(members, 3, "crit", "[\"b64\"]", "[\"b64\"]", "[\"b64\"]", "[\"b64\"]", "[\"b\\u00364\"]", "[]", "\"b64\"", "[\"b64\",\"b64\"]", "[\"b64\",\"x\"]", "[\"x\"]", "[1]", "[\"b64\",null]", "[[\"b64\"]]");
        may(members, 2, "b64", "false", "false", "true", "null", "\"false\"");
        return broken(object(members));
    }

    private SecondHouse.Key anyKey() {
        int k = key();
        return k >= 0 && k < 16 && second.keys[k] != null ? second.keys[k] : SecondHouse.keyOf(House.bytes(keyText(0)));
    }

    private byte[] signedToken() throws Exception {
        SecondHouse.Key k = anyKey();
        int alg = k.k() != null ? random.nextInt(2) : k.n() != null ? 2 + random.nextInt(2) : 4;
        byte[] head = House.bytes(signedHead(Maker.SIGNED[seldom(12) ? random.nextInt(5) : alg]));
        boolean asItIs = false;
        try {
            asItIs = SecondHouse.signedHead(head).asItIs();
        } catch (SecondHouse.Refusal r) {
            asItIs = random.nextBoolean();
        }
        byte[] payload = House.bytes(pick("", "a", "payload", "$.02", "as it is", "{}"));
        byte[] message = SecondHouse.signedPart(head, payload, asItIs);
        boolean able = alg <= 1 || (k.d() != null && (alg != 3 || k.bytes() >= 67));
        byte[] signature = able ? SecondHouse.signature(k, alg, message, House.join(new byte[] {1}, bytes(31))) : bytes(pick(0, 32, 64));
        if (k.n() != null && k.n().bitLength() % 8 == 1 && seldom(3)) {
            signature = NumberTest.fixed(new BigInteger(1, signature).add(k.n()), k.bytes());
        }
        if (seldom(8)) {
            signature = pick(0, 1) == 0 ? House.join(new byte[1], signature) : alg == 4 ? new byte[64] : Arrays.copyOf(signature, signature.length / 2);
        }
        return House.join(message, House.bytes("." + House.letters(signature)));
    }

    private String fresh(BigInteger[] p) {
        List<String> members = new ArrayList<>();
        members.add("\"kty\":" + (seldom(40) ? pick("\"oct\"", "1") : "\"EC\""));
        members.add("\"crv\":" + (seldom(40) ? pick("\"P-521\"", "null") : "\"P-256\""));
        BigInteger y = seldom(30) ? NumberTest.P.subtract(p[1]) : seldom(30) ? p[1].add(BigInteger.ONE) : p[1];
        members.add("\"x\":" + quoted(letters(House.letters(NumberTest.fixed(p[0], seldom(40) ? 31 : 32)), 60)));
        members.add("\"y\":" + quoted(letters(House.letters(NumberTest.fixed(y, 32)), 60)));
        if (seldom(40)) {
            members.remove(random.nextInt(4));
        }
        may(members, 10, "kid", "7", "\"a\"");
        may(members, 10, "d", "7", "\"AA\"");
        return seldom(40) ? pick("[]", "null", "\"\"") : object(members);
    }

    private byte[] sealedToken() throws Exception {
        SecondHouse.Key k = anyKey();
        int enc = random.nextInt(4);
        int alg = k.k() != null ? random.nextInt(3) : k.n() != null ? 3 : 4 + random.nextInt(2);
        if (alg == 0 && k.bytes() != Maker.KEY[enc]) {
            alg = 1 + random.nextInt(2);
        }
        BigInteger secret = BigInteger.valueOf(1 + random.nextInt(50));
        byte[] u = random.nextBoolean() ? null : bytes(random.nextInt(5));
        byte[] v = random.nextBoolean() ? null : bytes(random.nextInt(5));
        List<String> members = new ArrayList<>();
        if (!seldom(40)) {
            members.add("\"alg\":" + (seldom(20) ? pick("\"none\"", "\"HS256\"", "1", quoted(pick(Maker.SEALED))) : quoted(Maker.SEALED[alg])));
        }
        if (!seldom(40)) {
            members.add("\"enc\":" + (seldom(20) ? pick("\"A192GCM\"", "null", quoted(pick(Maker.WAYS))) : quoted(Maker.WAYS[enc])));
        }
        addCommon(members);
        may(members, 20, "crit", "[\"b64\"]", "[]", "[\"exp\"]", "1", "[\"a\",\"a\"]");
        may(members, 25, "zip", "\"DEF\"", "null");
        if (alg >= 4 ? !seldom(40) : seldom(20)) {
            members.add("\"epk\":" + fresh(NumberTest.times(secret, NumberTest.G)));
        }
        party(members, "apu", u);
        party(members, "apv", v);
        byte[] key = bytes(seldom(12) ? pick(16, 24, 32, 64) : Maker.KEY[enc]);
        byte[] agreed = alg >= 4 ? SecondHouse.agreed(secret, k.point(), alg, enc, u == null ? new byte[0] : u, v == null ? new byte[0] : v) : null;
        byte[] sealedKey = alg == 0 || alg == 4 ? bytes(seldom(10) ? 8 : 0) : sealedKey(k, alg, key, agreed);
        byte[] contentKey = alg == 0 ? k.k() : alg == 4 ? agreed : key.length == Maker.KEY[enc] ? key : bytes(Maker.KEY[enc]);
        byte[] token = SecondHouse.sealedToken(House.bytes(broken(object(members))), sealedKey, bytes(Maker.FIRST[enc]), enc, contentKey, bytes(random.nextInt(40)));
        return token;
    }

    private void party(List<String> members, String name, byte[] party) {
        if (party != null) {
            members.add("\"" + name + "\":" + (seldom(30) ? pick("5", "null", "\"A\"", "\"AB\"", "\"A A\"") : quoted(House.letters(party))));
        }
    }

    private byte[] sealedKey(SecondHouse.Key k, int alg, byte[] key, byte[] agreed) throws Exception {
        if (alg == 5) {
            return Maker.wrap(agreed, key);
        }
        if (alg == 3) {
            return k.bytes() >= 66 + key.length ? SecondHouse.oaep(key, bytes(32), k) : bytes(k.bytes());
        }
        return k.bytes() == 16 || k.bytes() == 32 ? Maker.wrap(k.k(), key) : bytes(key.length + 8);
    }

    /** Two of three stay as they are. */
    private byte[] mutated(byte[] token) {
        if (!seldom(3) || token.length == 0) {
            return token;
        }
        int at = random.nextInt(token.length);
        byte[] other = token.clone();
        switch (random.nextInt(6)) {
            case 0: other[at] = (byte) pick('A', 'B', '.', '=', 'z', '-', '_'); return other;
            case 1: return Arrays.copyOf(token, at);
            case 2: return House.join(token, House.bytes(pick(".", "A", "AA", "AAAA", "=", ".AAAA")));
            case 3: return House.join(Arrays.copyOf(token, at), Arrays.copyOfRange(token, Math.min(at + 1, token.length), token.length));
            case 4: return House.join(Arrays.copyOf(token, at), new byte[] {(byte) pick('A', '.')}, Arrays.copyOfRange(token, at, token.length));
            default: other[token.length - 1] ^= (byte) pick(1, 2, 4, 3); return other;
        }
    }

    // ---- texts

    private String jsonText() {
        StringBuilder text = new StringBuilder();
        addValue(text, 0);
        if (seldom(3) && text.length() > 0) {
            int at = random.nextInt(text.length());
            switch (random.nextInt(3)) {
                case 0: text.setCharAt(at, pick("{}[],:\"\\u0Ddn \u00e9\u00ed\u00a0\u0001").charAt(0)); break;
                case 1: text.deleteCharAt(at); break;
                default: text.insert(at, (char) random.nextInt(256)); break;
            }
        }
        return text.toString();
    }

    private void addValue(StringBuilder to, int depth) {
        int kind = random.nextInt(depth > 5 ? 5 : 9);
        switch (kind) {
            case 0: to.append(pick("null", "true", "false", "nul", "True")); break;
            case 1: case 2: to.append(pick("0", "-0", "1.50", "1e5", "-12E+07", "0.0e-0", "10", "-", "01", "1.", ".5", "1e", "+1")); break;
            case 3: case 4: addString(to); break;
            default:
                boolean object = random.nextBoolean();
                to.append(object ? '{' : '[');
                int many = random.nextInt(5);
                for (int i = 0; i < many; i++) {
                    to.append(i > 0 ? "," : "").append(seldom(5) ? " \t\r\n" : "");
                    if (object) {
                        addString(to);
                        to.append(seldom(5) ? " : " : ":");
                    }
                    addValue(to, depth + 1);
                }
                to.append(object ? '}' : ']');
        }
    }

    private void addString(StringBuilder to) {
        to.append('"');
        for (int i = random.nextInt(4); i > 0; i--) {
            to.append(pick("a", "b", "kid", "\\n", "\\/", "\\\"", "\\u0041", "\\u00e9", "\\uD83D\\ude00", "\u00c3\u00a9", "\u00e2\u0082\u00ac", "\u00f0\u009f\u0098\u0080", "\u007f", "\\b\\f\\r\\t\\\\",
                "a", "b", "c", "d", seldom(6) ? pick("\\ud800", "\\udc00", "\\x", "\u00c0\u0080", "\u00ed\u00a0\u0080", "\u001f", "\u00f4\u0090\u0080\u0080", "\\u12g4") : "z"));
        }
        to.append('"');
    }
}
