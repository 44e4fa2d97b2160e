import java.math.BigInteger;
import java.security.MessageDigest;
import java.util.Arrays;
import java.util.Base64;
import java.util.HashSet;
import java.util.Set;
import javax.crypto.Cipher;
import javax.crypto.spec.GCMParameterSpec;
import javax.crypto.spec.IvParameterSpec;

/** The document written down a second time, with Java's own library and without a care for room: SecondHouseTest asks both alike. */
final class SecondHouse {
    private static final BigInteger ONE = BigInteger.ONE, TWO = BigInteger.TWO, THREE = BigInteger.valueOf(3);
    private static final byte[] NOTHING = {};

    static final class Refusal extends RuntimeException {
        private static final long serialVersionUID = 1;
        final int answer;

        Refusal(int answer) {
            super("refused: " + answer, null, false, false);
            this.answer = answer;
        }
    }

    /** The numbers that its kind has not are null. */
    record Key(String kty, byte[] k, BigInteger n, BigInteger e, BigInteger d, BigInteger[] point, byte[] kid, String use, String alg) {
        int bytes() {
            return k != null ? k.length : n != null ? Keys.plain(n).length : 32;
        }

        boolean serves(String itsKty, String itsUse, String itsAlg) {
            return kty.equals(itsKty) && (use == null || use.equals(itsUse)) && (alg == null || alg.equals(itsAlg));
        }
    }

    record Head(int alg, int enc, byte[] kid, boolean asItIs, BigInteger[] point, byte[] u, byte[] v) {
    }

    final byte[][] rows = new byte[8][0];
    final Key[] keys = new Key[16];
    byte[] tape = NOTHING;
    byte[] out = NOTHING;
    PlainJson hand;

    int call(String name, int... a) throws Exception {
        try {
            return answer(name, a);
        } catch (Refusal r) {
            return r.answer;
        }
    }

    private int answer(String name, int[] a) throws Exception {
        return switch (name) {
            case "feed" -> feed(a);
            case "end" -> end(a[0]);
            case "row" -> row(a[0]);
            case "keep" -> keep(a[0]);
            case "poke" -> poke(a[0], a[1], a[2]);
            case "size" -> a[0] == House.NONE ? out.length : bytes(a[0]).length;
            case "out" -> a[0] < 0 || a[0] >= out.length ? House.NONE : out[a[0]] & 255;
            case "json" -> json(a[0]);
            case "value" -> value(a[0], a[1]);
            case "text" -> text(a[0]);
            case "name" -> name(a[0]);
            case "member" -> member(a[0], a[1]);
            case "write" -> write(a[0]);
            case "encode" -> show(House.bytes(House.letters(bytes(a[0]))));
            case "decode" -> decode(a[0]);
            case "hash" -> hash(a[0], a[1]);
            case "code" -> code(a[0], a[1], a[2]);
            case "block" -> block(a[0], a[1], a[2] != 0);
            case "wrap" -> wrap(a[0], a[1]);
            case "unwrap" -> unwrap(a[0], a[1]);
            case "seal" -> seal(a[0], a[1], a[2], a[3], a[4]);
            case "open" -> open(a[0], a[1], a[2], a[3], a[4]);
            case "power" -> power(a[0], a[1], a[2]);
            case "multiply" -> multiply(a[0], a[1]);
            case "derive" -> derive(a[0], a[1], a[2], a[3], a[4]);
            case "key" -> key(a[0]);
            case "drop" -> drop(a[0]);
            case "told" -> told(a[0], a[1]);
            case "print" -> print(a[0]);
            case "sign" -> sign(a[0], a[1], a[2], a[3], a[4]);
            case "verify" -> verify(a[0]);
            case "encrypt" -> encrypt(a);
            case "decrypt" -> decrypt(a[0]);
            default -> throw new IllegalArgumentException(name);
        };
    }

    // ---- what the calls share

    static void need(boolean holds, int answer) {
        if (!holds) {
            throw new Refusal(answer);
        }
    }

    private byte[] bytes(int r) {
        need(r >= 0 && r <= 7, House.BAD);
        return rows[r];
    }

    private byte[] bytesOrNull(int r) {
        return r == House.NONE ? null : bytes(r);
    }

    private Key keyAt(int key) {
        need(key >= 0 && key <= 15 && keys[key] != null, House.BAD);
        return keys[key];
    }

    private PlainJson.Value valueAt(int i) {
        need(hand != null && i >= 0 && i < hand.values.size(), House.BAD);
        return hand.values.get(i);
    }

    private int show(byte[] bytes) {
        need(bytes.length <= 8192, House.LARGE);
        out = bytes;
        return bytes.length;
    }

    private static BigInteger number(byte[] bytes) {
        return new BigInteger(1, bytes);
    }

    private static byte[] part(byte[] bytes, int from, int many) {
        return Arrays.copyOfRange(bytes, from, from + many);
    }

    // ---- bytes

    private int feed(int[] words) {
        need(tape.length + 20 <= 8192, House.BAD);
        for (int word : words) {
            tape = House.join(tape, DigestTest.word(word));
        }
        return tape.length;
    }

    private int end(int n) {
        need(n >= 0 && n <= tape.length, House.BAD);
        tape = Arrays.copyOf(tape, n);
        return n;
    }

    private int row(int r) {
        bytes(r);
        rows[r] = tape;
        tape = NOTHING;
        return rows[r].length;
    }

    private int keep(int r) {
        bytes(r);
        rows[r] = out.clone();
        return out.length;
    }

    private int poke(int r, int i, int x) {
        need(i >= 0 && i < bytes(r).length && x >= 0 && x <= 255, House.BAD);
        rows[r] = rows[r].clone();
        rows[r][i] ^= (byte) x;
        return rows[r][i] & 255;
    }

    // ---- texts and letters

    private int json(int r) {
        byte[] text = bytes(r);
        try {
            hand = new PlainJson(text);
        } catch (PlainJson.Fault f) {
            return -100 - f.place;
        }
        return hand.values.size();
    }

    private int value(int i, int what) {
        PlainJson.Value v = valueAt(i);
        need(what >= 0 && what <= 4, House.BAD);
        int many = v.kind >= 5 ? v.inside.size() : v.said.length;
        return new int[] {v.kind, many, v.parent, v.place, v.start}[what];
    }

    private int text(int i) {
        PlainJson.Value v = valueAt(i);
        need(v.kind == 3 || v.kind == 4, House.BAD);
        return show(v.said);
    }

    private int name(int i) {
        PlainJson.Value v = valueAt(i);
        need(v.name != null, House.BAD);
        return show(v.name);
    }

    private int member(int i, int r) {
        byte[] wanted = bytes(r);
        need(valueAt(i).kind == 6, House.BAD);
        for (int m : valueAt(i).inside) {
            if (Arrays.equals(hand.values.get(m).name, wanted)) {
                return m;
            }
        }
        return House.NONE;
    }

    private int write(int i) {
        valueAt(i);
        return show(hand.write(i));
    }

    /** -1: they are letters for bytes. */
    static int letterFault(byte[] letters) {
        for (int i = 0; i < letters.length; i++) {
            if ("ABCDEFGHIJKLMNOPQRSTUVWXYZabcdefghijklmnopqrstuvwxyz0123456789-_".indexOf(letters[i]) < 0) {
                return i;
            }
        }
        if (letters.length % 4 == 1) {
            return letters.length;
        }
        return Arrays.equals(House.bytes(House.letters(Base64.getUrlDecoder().decode(letters))), letters) ? -1 : letters.length - 1;
    }

    private int decode(int r) {
        int fault = letterFault(bytes(r));
        return fault >= 0 ? -100 - fault : show(Base64.getUrlDecoder().decode(bytes(r)));
    }

    // ---- digests, cipher

    private int hash(int bits, int r) throws Exception {
        need(bits == 256 || bits == 512, House.BAD);
        return show(MessageDigest.getInstance("SHA-" + bits).digest(bytes(r)));
    }

    private static byte[] code(int bits, byte[] key, byte[] bytes) throws Exception {
        return Maker.code(bits == 256 ? 0 : 1, key.length == 0 ? new byte[1] : key, bytes);
    }

    private int code(int bits, int key, int r) throws Exception {
        need(bits == 256 || bits == 512, House.BAD);
        return show(code(bits, bytes(key), bytes(r)));
    }

    private byte[] cipherKey(int r) {
        need(bytes(r).length == 16 || bytes(r).length == 32, House.BAD);
        return bytes(r);
    }

    private int block(int key, int r, boolean back) throws Exception {
        need(bytes(r).length == 16, House.BAD);
        Cipher c = Cipher.getInstance("AES/ECB/NoPadding");
        c.init(back ? Cipher.DECRYPT_MODE : Cipher.ENCRYPT_MODE, CipherTest.aes(cipherKey(key)));
        return show(c.doFinal(bytes(r)));
    }

    private int wrap(int key, int r) throws Exception {
        int many = bytes(r).length;
        need(many >= 16 && many <= 64 && many % 8 == 0, House.BAD);
        return show(Maker.wrap(cipherKey(key), bytes(r)));
    }

    /** null: it does not fit the key. */
    private static byte[] unwrapped(byte[] key, byte[] wrapped) throws Exception {
        if (wrapped.length < 24 || wrapped.length > 72 || wrapped.length % 8 != 0) {
            return null;
        }
        Cipher c = Cipher.getInstance("AESWrap");
        c.init(Cipher.UNWRAP_MODE, CipherTest.aes(key));
        try {
            return c.unwrap(wrapped, "AES", Cipher.SECRET_KEY).getEncoded();
        } catch (java.security.InvalidKeyException e) {
            return null;
        }
    }

    private int unwrap(int key, int r) throws Exception {
        int many = bytes(r).length;
        need(many >= 24 && many <= 72 && many % 8 == 0, House.BAD);
        byte[] plain = unwrapped(cipherKey(key), bytes(r));
        need(plain != null, House.NONE);
        return show(plain);
    }

    private void needWay(int way, int key, int first) {
        need(way >= 0 && way <= 3, House.BAD);
        need(bytes(key).length == Maker.KEY[way] && bytes(first).length == Maker.FIRST[way], House.BAD);
    }

    private int seal(int way, int key, int first, int also, int r) throws Exception {
        needWay(way, key, first);
        return show(CipherTest.seal(way, bytes(key), bytes(first), bytes(also), bytes(r)));
    }

    /** null: it is not opened. */
    private static byte[] opened(int way, byte[] key, byte[] first, byte[] also, byte[] sealed) throws Exception {
        int many = sealed.length - Maker.MARK[way];
        if (many < 0) {
            return null;
        }
        if (way >= 2) {
            Cipher c = Cipher.getInstance("AES/GCM/NoPadding");
            c.init(Cipher.DECRYPT_MODE, CipherTest.aes(key), new GCMParameterSpec(128, first));
            c.updateAAD(also);
            try {
                return c.doFinal(sealed);
            } catch (javax.crypto.AEADBadTagException e) {
                return null;
            }
        }
        if (many == 0 || many % 16 != 0 || !Arrays.equals(CipherTest.marked(way, key, first, also, part(sealed, 0, many)), sealed)) {
            return null;
        }
        Cipher c = Cipher.getInstance("AES/CBC/PKCS5Padding");
        c.init(Cipher.DECRYPT_MODE, CipherTest.aes(part(key, key.length / 2, key.length / 2)), new IvParameterSpec(first));
        try {
            return c.doFinal(sealed, 0, many);
        } catch (javax.crypto.BadPaddingException e) {
            return null;
        }
    }

    private int open(int way, int key, int first, int also, int r) throws Exception {
        needWay(way, key, first);
        byte[] plain = opened(way, bytes(key), bytes(first), bytes(also), bytes(r));
        need(plain != null, House.NONE);
        return show(plain);
    }

    // ---- great numbers, points

    private int power(int base, int exponent, int modulus) {
        byte[] m = bytes(modulus);
        need(bytes(base).length <= 128 && bytes(exponent).length <= 128, House.BAD);
        need(m.length >= 1 && m.length <= 128 && m[0] != 0 && number(m).testBit(0) && number(m).compareTo(ONE) > 0, House.BAD);
        return show(NumberTest.fixed(number(bytes(base)).modPow(number(bytes(exponent)), number(m)), m.length));
    }

    private static boolean isOnCurve(BigInteger x, BigInteger y) {
        BigInteger right = x.pow(3).subtract(THREE.multiply(x)).add(NumberTest.B);
        return x.compareTo(NumberTest.P) < 0 && y.compareTo(NumberTest.P) < 0 && y.pow(2).subtract(right).mod(NumberTest.P).signum() == 0;
    }

    private int multiply(int number, int point) {
        byte[] xy = bytesOrNull(point);
        need(bytes(number).length == 32 && (xy == null || xy.length == 64), House.BAD);
        BigInteger[] p = xy == null ? NumberTest.G : new BigInteger[] {number(part(xy, 0, 32)), number(part(xy, 32, 32))};
        need(isOnCurve(p[0], p[1]), House.BAD);
        BigInteger[] product = NumberTest.times(number(bytes(number)), p);
        need(product != null, House.NONE);
        return show(NumberTest.point(product));
    }

    private int derive(int secret, int name, int u, int v, int many) throws Exception {
        byte[] z = bytes(secret);
        byte[] label = bytes(name);
        byte[] first = bytes(u);
        byte[] second = bytes(v);
        need(many == 16 || many == 32 || many == 64, House.BAD);
        return show(DigestTest.derive(z, label, first, second, many));
    }

    // ---- keys

    private static PlainJson.Value find(PlainJson t, PlainJson.Value object, String name) {
        for (int m : object.inside) {
            if (Arrays.equals(t.values.get(m).name, House.bytes(name))) {
                return t.values.get(m);
            }
        }
        return null;
    }

    private static boolean isString(PlainJson.Value v) {
        return v != null && v.kind == 4;
    }

    private static boolean areLetters(PlainJson.Value v) {
        return isString(v) && letterFault(v.said) < 0;
    }

    private static String said(PlainJson.Value v) {
        return v == null ? null : new String(v.said, java.nio.charset.StandardCharsets.ISO_8859_1);
    }

    private static byte[] unlettered(PlainJson.Value v) {
        return Base64.getUrlDecoder().decode(v.said);
    }

    /** Without 0s in front. */
    private static BigInteger plainNumber(PlainJson.Value v, int least) {
        byte[] bytes = unlettered(v);
        need(bytes.length >= least && bytes.length <= 128 && bytes[0] != 0, -16);
        return number(bytes);
    }

    private static BigInteger coordinate(PlainJson.Value v) {
        byte[] bytes = unlettered(v);
        need(bytes.length == 32, -16);
        return number(bytes);
    }

    private static boolean isSecret(BigInteger d) {
        return d.signum() > 0 && d.compareTo(NumberTest.N) < 0;
    }

    /** Refuses with -10 less the reason. */
    static Key keyOf(byte[] text) {
        PlainJson t;
        try {
            t = new PlainJson(text);
        } catch (PlainJson.Fault f) {
            throw new Refusal(-11);
        }
        PlainJson.Value o = t.values.get(0);
        need(o.kind == 6, -12);
        PlainJson.Value kty = find(t, o, "kty");
        need(isString(kty) && Set.of("oct", "RSA", "EC").contains(said(kty)), -13);
        for (String name : new String[] {"kid", "use", "alg"}) {
            need(find(t, o, name) == null || isString(find(t, o, name)), -14);
        }
        PlainJson.Value d = said(kty).equals("oct") ? null : find(t, o, "d");
        String wanted = said(kty).equals("oct") ? "k" : said(kty).equals("RSA") ? "n e" : "x y";
        for (String name : wanted.split(" ")) {
            need(areLetters(find(t, o, name)), -15);
        }
        PlainJson.Value crv = find(t, o, "crv");
        need(!said(kty).equals("EC") || (isString(crv) && said(crv).equals("P-256")), -15);
        need(d == null || areLetters(d), -15);
        byte[] kid = find(t, o, "kid") == null ? null : find(t, o, "kid").said;
        String use = said(find(t, o, "use"));
        String alg = said(find(t, o, "alg"));
        return switch (said(kty)) {
            case "oct" -> {
                byte[] k = unlettered(find(t, o, "k"));
                need(k.length >= 1 && k.length <= 128, -16);
                yield new Key("oct", k, null, null, null, null, kid, use, alg);
            }
            case "RSA" -> rsaKey(find(t, o, "n"), find(t, o, "e"), d, kid, use, alg);
            default -> curveKey(find(t, o, "x"), find(t, o, "y"), d, kid, use, alg);
        };
    }

    private static Key rsaKey(PlainJson.Value itsN, PlainJson.Value itsE, PlainJson.Value itsD, byte[] kid, String use, String alg) {
        BigInteger n = plainNumber(itsN, 64);
        BigInteger e = plainNumber(itsE, 1);
        need(n.testBit(0) && e.testBit(0) && e.compareTo(THREE) >= 0 && e.compareTo(n) < 0, -16);
        BigInteger d = itsD == null ? null : plainNumber(itsD, 1);
        need(d == null || (d.compareTo(n) < 0 && TWO.modPow(e.multiply(d), n).equals(TWO)), -16);
        return new Key("RSA", null, n, e, d, null, kid, use, alg);
    }

    private static Key curveKey(PlainJson.Value itsX, PlainJson.Value itsY, PlainJson.Value itsD, byte[] kid, String use, String alg) {
        BigInteger[] p = {coordinate(itsX), coordinate(itsY)};
        need(isOnCurve(p[0], p[1]), -16);
        BigInteger d = itsD == null ? null : coordinate(itsD);
        need(d == null || (isSecret(d) && Arrays.equals(NumberTest.times(d, NumberTest.G), p)), -16);
        return new Key("EC", null, null, null, d, p, kid, use, alg);
    }

    private int key(int r) {
        Key key = keyOf(bytes(r));
        for (int k = 0; k < 16; k++) {
            if (keys[k] == null) {
                keys[k] = key;
                return k;
            }
        }
        throw new Refusal(-17);
    }

    private int drop(int key) {
        keyAt(key);
        keys[key] = null;
        return 1;
    }

    private int told(int key, int what) {
        Key k = keyAt(key);
        need(what >= 0 && what <= 5, House.BAD);
        int use = k.use == null ? 0 : k.use.equals("sig") ? 1 : k.use.equals("enc") ? 2 : 3;
        int kty = k.k != null ? 0 : k.n != null ? 1 : 2;
        return new int[] {kty, k.bytes(), k.d != null ? 1 : 0, use, k.kid == null ? House.NONE : k.kid.length, k.alg == null ? 0 : 1}[what];
    }

    private int print(int key) throws Exception {
        Key k = keyAt(key);
        String members = k.k != null ? "'k':'" + House.letters(k.k) + "','kty':'oct'"
            : k.n != null ? "'e':'" + Keys.letters(k.e) + "','kty':'RSA','n':'" + Keys.letters(k.n) + "'"
            : "'crv':'P-256','kty':'EC'," + xAndY(k.point);
        return show(Maker.hash(House.bytes("{" + members.replace('\'', '"') + "}")));
    }

    private static String xAndY(BigInteger[] p) {
        return "'x':'" + House.letters(NumberTest.fixed(p[0], 32)) + "','y':'" + House.letters(NumberTest.fixed(p[1], 32)) + "'";
    }

    // ---- signed tokens

    /** Whose reasons are the same for both kinds of tokens. */
    private static PlainJson soundHead(byte[] text, boolean sealed) {
        PlainJson t;
        try {
            t = new PlainJson(text);
        } catch (PlainJson.Fault f) {
            throw new Refusal(House.TEXT);
        }
        PlainJson.Value o = t.values.get(0);
        need(o.kind == 6 && isString(find(t, o, "alg")), House.HEAD);
        need(!sealed || (isString(find(t, o, "enc")) && find(t, o, "zip") == null), House.HEAD);
        need(find(t, o, "kid") == null || isString(find(t, o, "kid")), House.HEAD);
        PlainJson.Value crit = find(t, o, "crit");
        if (crit != null) {
            need(crit.kind == 5 && !crit.inside.isEmpty(), House.HEAD);
            Set<String> names = new HashSet<>();
            for (int i : crit.inside) {
                need(isString(t.values.get(i)) && names.add(said(t.values.get(i))), House.HEAD);
            }
            need(!sealed, House.NAMES);
        }
        return t;
    }

    private static byte[] kidOf(PlainJson t) {
        PlainJson.Value kid = find(t, t.values.get(0), "kid");
        return kid == null ? null : kid.said;
    }

    static Head signedHead(byte[] text) {
        PlainJson t = soundHead(text, false);
        PlainJson.Value o = t.values.get(0);
        boolean asItIs = false;
        if (find(t, o, "crit") != null) {
            for (int i : find(t, o, "crit").inside) {
                need(said(t.values.get(i)).equals("b64"), House.NAMES);
            }
            PlainJson.Value b64 = find(t, o, "b64");
            need(b64 != null && (b64.kind == 1 || b64.kind == 2), House.NAMES);
            asItIs = b64.kind == 1;
        }
        int alg = Arrays.asList(Maker.SIGNED).indexOf(said(find(t, o, "alg")));
        need(alg >= 0, House.ALG);
        return new Head(alg, 0, kidOf(t), asItIs, null, null, null);
    }

    static boolean maySign(Key k, int alg, boolean toSign) {
        String kty = alg <= 1 ? "oct" : alg <= 3 ? "RSA" : "EC";
        int least = alg == 0 ? 32 : alg == 1 ? 64 : alg == 3 ? 67 : 0;
        return k.serves(kty, "sig", Maker.SIGNED[alg]) && k.bytes() >= least && (!toSign || alg <= 1 || k.d != null);
    }

    private static byte[] pkcs(byte[] message, int many) throws Exception {
        byte[] info = House.hex("3031300d060960864801650304020105000420");
        byte[] fill = new byte[many - 3 - info.length - 32];
        Arrays.fill(fill, (byte) 255);
        return House.join(new byte[] {0, 1}, fill, new byte[1], info, Maker.hash(message));
    }

    private static byte[] xor(byte[] a, byte[] b) {
        byte[] to = a.clone();
        for (int i = 0; i < to.length; i++) {
            to[i] ^= b[i];
        }
        return to;
    }

    /** EMSA-PSS of RFC 8017, 9.1.1; the salt of a signature is found by undoing the mask. */
    private static byte[] pss(byte[] message, byte[] salt, int bits) throws Exception {
        int many = (bits + 7) / 8;
        byte[] hash = Maker.hash(House.join(new byte[8], Maker.hash(message), salt));
        byte[] block = House.join(new byte[many - 66], new byte[] {1}, salt);
        byte[] masked = xor(block, Maker.mask(hash, block.length));
        masked[0] &= (byte) (255 >> 8 * many - bits);
        return House.join(masked, hash, new byte[] {(byte) 0xbc});
    }

    private static boolean isPssRight(byte[] message, BigInteger signed, int bits) throws Exception {
        int many = (bits + 7) / 8;
        if (signed.bitLength() > 8 * many) {
            return false;
        }
        byte[] frame = NumberTest.fixed(signed, many);
        byte[] block = part(frame, 0, many - 33);
        byte[] salt = part(xor(block, Maker.mask(part(frame, many - 33, 32), block.length)), many - 65, 32);
        return Arrays.equals(pss(message, salt, bits), frame);
    }

    private static byte[] ecdsa(BigInteger d, BigInteger k, byte[] message) throws Exception {
        byte[] rs = Maker.signEc(d, k, message);
        need(number(part(rs, 0, 32)).signum() != 0 && number(part(rs, 32, 32)).signum() != 0, House.RANDOM);
        return rs;
    }

    private static boolean isEcdsaRight(BigInteger[] p, byte[] message, byte[] signature) throws Exception {
        if (signature.length != 64) {
            return false;
        }
        BigInteger r = number(part(signature, 0, 32));
        BigInteger s = number(part(signature, 32, 32));
        if (!isSecret(r) || !isSecret(s)) {
            return false;
        }
        BigInteger inverse = s.modInverse(NumberTest.N);
        BigInteger[] first = NumberTest.times(number(Maker.hash(message)).multiply(inverse).mod(NumberTest.N), NumberTest.G);
        BigInteger[] sum = NumberTest.add(first, NumberTest.times(r.multiply(inverse).mod(NumberTest.N), p));
        return sum != null && sum[0].mod(NumberTest.N).equals(r);
    }

    /** Who may is not asked. */
    static byte[] signature(Key k, int alg, byte[] message, byte[] random) throws Exception {
        if (alg <= 1) {
            return code(alg == 0 ? 256 : 512, k.k, message);
        }
        need(alg == 2 || random.length >= 32, House.RANDOM);
        switch (alg) {
            case 2: return NumberTest.fixed(number(pkcs(message, k.bytes())).modPow(k.d, k.n), k.bytes());
            case 3: return NumberTest.fixed(number(pss(message, part(random, 0, 32), k.n.bitLength() - 1)).modPow(k.d, k.n), k.bytes());
            default:
                BigInteger secret = number(part(random, 0, 32));
                need(isSecret(secret), House.RANDOM);
                return ecdsa(k.d, secret, message);
        }
    }

    private static boolean isSigned(Key k, int alg, byte[] message, byte[] signature) throws Exception {
        if (alg <= 1) {
            return Arrays.equals(code(alg == 0 ? 256 : 512, k.k, message), signature);
        }
        if (alg == 4) {
            return isEcdsaRight(k.point, message, signature);
        }
        if (signature.length != k.bytes() || number(signature).compareTo(k.n) >= 0) {
            return false;
        }
        BigInteger signed = number(signature).modPow(k.e, k.n);
        return alg == 3 ? isPssRight(message, signed, k.n.bitLength() - 1) : signed.equals(number(pkcs(message, k.bytes())));
    }

    /** What stands before the second point. */
    static byte[] signedPart(byte[] head, byte[] payload, boolean asItIs) {
        return House.join(House.bytes(House.letters(head) + "."), asItIs ? payload : House.bytes(House.letters(payload)));
    }

    private static String written(byte[] kid) {
        java.io.ByteArrayOutputStream to = new java.io.ByteArrayOutputStream();
        PlainJson.quote(kid, to);
        return to.toString(java.nio.charset.StandardCharsets.ISO_8859_1);
    }

    private int sign(int key, int alg, int head, int payload, int random) throws Exception {
        Key k = keyAt(key);
        need(alg >= 0 && alg <= 4, House.BAD);
        byte[] text = bytesOrNull(head);
        byte[] content = bytes(payload);
        byte[] drawn = alg >= 3 ? bytes(random) : NOTHING;
        need(maySign(k, alg, true), House.KEY);
        boolean asItIs = false;
        if (text == null) {
            text = House.bytes("{\"alg\":\"" + Maker.SIGNED[alg] + "\"" + (k.kid == null ? "" : ",\"kid\":" + written(k.kid)) + "}");
        } else {
            Head h = signedHead(text);
            need(h.alg == alg, House.WRONG);
            asItIs = h.asItIs;
        }
        need(!asItIs || new String(content, java.nio.charset.StandardCharsets.ISO_8859_1).indexOf('.') < 0, House.POINT);
        byte[] message = signedPart(text, content, asItIs);
        return show(House.join(message, House.bytes("." + House.letters(signature(k, alg, message, drawn)))));
    }

    private static String[] parts(byte[] token, int many) {
        String[] parts = new String(token, java.nio.charset.StandardCharsets.ISO_8859_1).split("\\.", -1);
        need(parts.length == many, House.FORM);
        return parts;
    }

    private static byte[] unletteredPart(String part) {
        need(letterFault(House.bytes(part)) < 0, House.PART);
        return Base64.getUrlDecoder().decode(House.bytes(part));
    }

    private static boolean isAskedFor(Key k, byte[] kid) {
        return k != null && (kid == null || Arrays.equals(k.kid, kid));
    }

    private int verify(int r) throws Exception {
        String[] parts = parts(bytes(r), 3);
        Head h = signedHead(unletteredPart(parts[0]));
        byte[] payload = h.asItIs ? House.bytes(parts[1]) : unletteredPart(parts[1]);
        byte[] signature = unletteredPart(parts[2]);
        boolean may = false;
        for (int k = 0; k < 16; k++) {
            if (isAskedFor(keys[k], h.kid) && maySign(keys[k], h.alg, false)) {
                may = true;
                if (isSigned(keys[k], h.alg, House.bytes(parts[0] + "." + parts[1]), signature)) {
                    show(payload);
                    return k;
                }
            }
        }
        throw new Refusal(may ? House.WRONG : House.KEY);
    }

    // ---- sealed tokens

    static Head sealedHead(byte[] text) {
        PlainJson t = soundHead(text, true);
        PlainJson.Value o = t.values.get(0);
        int alg = Arrays.asList(Maker.SEALED).indexOf(said(find(t, o, "alg")));
        int enc = Arrays.asList(Maker.WAYS).indexOf(said(find(t, o, "enc")));
        need(alg >= 0 && enc >= 0, House.ALG);
        if (alg < 4) {
            return new Head(alg, enc, kidOf(t), false, null, NOTHING, NOTHING);
        }
        PlainJson.Value epk = find(t, o, "epk");
        need(epk != null && epk.kind == 6, House.HEAD);
        need(isString(find(t, epk, "kty")) && said(find(t, epk, "kty")).equals("EC"), House.HEAD);
        need(isString(find(t, epk, "crv")) && said(find(t, epk, "crv")).equals("P-256"), House.HEAD);
        for (String name : new String[] {"x", "y"}) {
            need(areLetters(find(t, epk, name)) && unlettered(find(t, epk, name)).length == 32, House.HEAD);
        }
        BigInteger[] p = {number(unlettered(find(t, epk, "x"))), number(unlettered(find(t, epk, "y")))};
        need(isOnCurve(p[0], p[1]), House.HEAD);
        for (String name : new String[] {"apu", "apv"}) {
            need(find(t, o, name) == null || areLetters(find(t, o, name)), House.HEAD);
        }
        byte[] u = find(t, o, "apu") == null ? NOTHING : unlettered(find(t, o, "apu"));
        byte[] v = find(t, o, "apv") == null ? NOTHING : unlettered(find(t, o, "apv"));
        return new Head(alg, enc, kidOf(t), false, p, u, v);
    }

    static boolean maySeal(Key k, int alg, int enc, boolean toOpen) {
        if (!k.serves(alg <= 2 ? "oct" : alg == 3 ? "RSA" : "EC", "enc", Maker.SEALED[alg])) {
            return false;
        }
        return switch (alg) {
            case 0 -> k.bytes() == Maker.KEY[enc];
            case 1 -> k.bytes() == 16;
            case 2 -> k.bytes() == 32;
            case 3 -> k.bytes() >= 66 + Maker.KEY[enc] && (!toOpen || k.d != null);
            default -> !toOpen || k.d != null;
        };
    }

    static byte[] agreed(BigInteger d, BigInteger[] p, int alg, int enc, byte[] u, byte[] v) throws Exception {
        byte[] z = NumberTest.fixed(NumberTest.times(d, p)[0], 32);
        return DigestTest.derive(z, House.bytes(alg == 4 ? Maker.WAYS[enc] : Maker.SEALED[alg]), u, v, alg == 4 ? Maker.KEY[enc] : 16);
    }

    static byte[] oaep(byte[] message, byte[] seed, Key k) throws Exception {
        byte[] fill = new byte[k.bytes() - message.length - 66];
        byte[] block = House.join(Maker.hash(NOTHING), fill, new byte[] {1}, message);
        byte[] masked = xor(block, Maker.mask(seed, block.length));
        byte[] frame = House.join(new byte[1], xor(seed, Maker.mask(masked, 32)), masked);
        return NumberTest.fixed(number(frame).modPow(k.e, k.n), k.bytes());
    }

    /** null: it was not sealed so. */
    private static byte[] openedOaep(byte[] sealed, Key k) throws Exception {
        if (sealed.length != k.bytes() || number(sealed).compareTo(k.n) >= 0) {
            return null;
        }
        byte[] frame = NumberTest.fixed(number(sealed).modPow(k.d, k.n), k.bytes());
        byte[] masked = part(frame, 33, frame.length - 33);
        byte[] seed = xor(part(frame, 1, 32), Maker.mask(masked, 32));
        byte[] block = xor(masked, Maker.mask(seed, masked.length));
        int at = 32;
        while (at < block.length && block[at] == 0) {
            at++;
        }
        boolean right = frame[0] == 0 && Arrays.equals(part(block, 0, 32), Maker.hash(NOTHING)) && at < block.length && block[at] == 1;
        return right ? part(block, at + 1, block.length - at - 1) : null;
    }

    private int encrypt(int[] a) throws Exception {
        Key k = keyAt(a[0]);
        int alg = a[1];
        int enc = a[2];
        need(alg >= 0 && alg <= 5 && enc >= 0 && enc <= 3, House.BAD);
        byte[] payload = bytes(a[3]);
        byte[] random = bytes(a[4]);
        byte[] u = alg >= 4 ? bytesOrNull(a[5]) : null;
        byte[] v = alg >= 4 ? bytesOrNull(a[6]) : null;
        need(maySeal(k, alg, enc, false), House.KEY);
        int freshMany = alg >= 4 ? 32 : 0;
        int keyMany = alg == 0 || alg == 4 ? 0 : Maker.KEY[enc];
        int seedMany = alg == 3 ? 32 : 0;
        need(random.length >= freshMany + keyMany + seedMany + Maker.FIRST[enc], House.RANDOM);
        BigInteger fresh = number(part(random, 0, freshMany));
        need(alg < 4 || isSecret(fresh), House.RANDOM);
        byte[] key = part(random, freshMany, keyMany);
        byte[] seed = part(random, freshMany + keyMany, seedMany);
        byte[] first = part(random, freshMany + keyMany + seedMany, Maker.FIRST[enc]);
        byte[] agreed = alg < 4 ? null : agreed(fresh, k.point, alg, enc, u == null ? NOTHING : u, v == null ? NOTHING : v);
        byte[] sealedKey = switch (alg) {
            case 0, 4 -> NOTHING;
            case 3 -> oaep(key, seed, k);
            case 5 -> Maker.wrap(agreed, key);
            default -> Maker.wrap(k.k, key);
        };
        byte[] contentKey = alg == 0 ? k.k : alg == 4 ? agreed : key;
        String head = "'alg':'" + Maker.SEALED[alg] + "','enc':'" + Maker.WAYS[enc] + "'" + (k.kid == null ? "" : ",'kid':\0");
        if (alg >= 4) {
            head += ",'epk':{'kty':'EC','crv':'P-256'," + xAndY(NumberTest.times(fresh, NumberTest.G)) + "}"
                + (u == null ? "" : ",'apu':'" + House.letters(u) + "'") + (v == null ? "" : ",'apv':'" + House.letters(v) + "'");
        }
        head = "{" + head.replace('\'', '"').replace("\0", k.kid == null ? "" : written(k.kid)) + "}";
        return show(sealedToken(House.bytes(head), sealedKey, first, enc, contentKey, payload));
    }

    static byte[] sealedToken(byte[] head, byte[] sealedKey, byte[] first, int enc, byte[] key, byte[] payload) throws Exception {
        String front = House.letters(head);
        byte[] sealed = CipherTest.seal(enc, key, first, House.bytes(front), payload);
        int cut = sealed.length - Maker.MARK[enc];
        return House.bytes(front + "." + House.letters(sealedKey) + "." + House.letters(first) + "."
            + House.letters(part(sealed, 0, cut)) + "." + House.letters(part(sealed, cut, Maker.MARK[enc])));
    }

    private static byte[] contentKey(Key k, Head h, byte[] sealedKey) throws Exception {
        byte[] agreed = h.alg < 4 ? null : agreed(k.d, h.point, h.alg, h.enc, h.u, h.v);
        return switch (h.alg) {
            case 0 -> sealedKey.length == 0 ? k.k : null;
            case 3 -> openedOaep(sealedKey, k);
            case 4 -> sealedKey.length == 0 ? agreed : null;
            case 5 -> unwrapped(agreed, sealedKey);
            default -> unwrapped(k.k, sealedKey);
        };
    }

    private int decrypt(int r) throws Exception {
        String[] parts = parts(bytes(r), 5);
        byte[][] said = new byte[5][];
        for (int p = 0; p < 5; p++) {
            said[p] = unletteredPart(parts[p]);
        }
        Head h = sealedHead(said[0]);
        boolean may = false;
        for (int k = 0; k < 16; k++) {
            if (isAskedFor(keys[k], h.kid) && maySeal(keys[k], h.alg, h.enc, true)) {
                may = true;
                byte[] key = contentKey(keys[k], h, said[1]);
                boolean whole = key != null && key.length == Maker.KEY[h.enc] && said[2].length == Maker.FIRST[h.enc] && said[4].length == Maker.MARK[h.enc];
                byte[] plain = whole ? opened(h.enc, key, said[2], House.bytes(parts[0]), House.join(said[3], said[4])) : null;
                if (plain != null) {
                    show(plain);
                    return k;
                }
            }
        }
        throw new Refusal(may ? House.WRONG : House.KEY);
    }
}
