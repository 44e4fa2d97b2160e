/**
 * A house for tokens that are signed or sealed, with all that they are made of: texts of values,
 * letters for bytes, digests, codes, a block cipher, great numbers and points of a curve.
 *
 * Rows and scratch space are made once, in the constructors; calls make nothing, but for the room of a long kid.
 */
public final class SealedTokens {
    public static final int NONE = -1, BAD = -2, LARGE = -3, RANDOM = -4, POINT = -5, FORM = -20, PART = -21, TEXT = -22, HEAD = -23, NAMES = -24, ALG = -25, KEY = -26, WRONG = -27;

    /** Most bytes of a row, of the tape and of OUT. */
    private static final int MOST = 8192;
    private static final int ROWS = 8;
    private static final int KEYS = 16;
    /** Room for the letters of two full rows and a signature: a token that is too large is known by its length. */
    private static final int TOKEN_ROOM = 22528;

    private static final int NULL = 0, FALSE = 1, TRUE = 2, NUMBER = 3, STRING = 4, ARRAY = 5, OBJECT = 6;
    private static final int OCT = 0, RSA = 1, EC = 2;
    private static final int HS256 = 0, HS512 = 1, RS256 = 2, PS256 = 3, ES256 = 4, SIGNED_ALGS = 5;
    private static final int DIR = 0, A128KW = 1, A256KW = 2, OAEP = 3, ECDH = 4, ECDH_KW = 5, SEALED_ALGS = 6;
    private static final int WAYS = 4, FIRST_GCM_WAY = 2;

    private static final int[] WAY_KEY = {32, 64, 16, 32};
    private static final int[] WAY_FIRST = {16, 16, 12, 12};
    private static final int[] WAY_MARK = {16, 32, 16, 16};

    private final Bytes[] rows = new Bytes[ROWS];
    private final Bytes tape = new Bytes(MOST);
    private final Bytes shown = new Bytes(MOST);
    private final Bytes nothing = new Bytes(0);
    /** The token that is being made, or what its mark is of. */
    private final Bytes work = new Bytes(TOKEN_ROOM);
    /** A signature, or sealed content with its mark. */
    private final Bytes sealed = new Bytes(MOST);
    private final Bytes plain = new Bytes(MOST);
    private Text hand = new Text();
    /** Read into first, so that a faulty text leaves the one at hand alone. */
    private Text spare = new Text();
    private final Reader reader = new Reader(nothing, spare);
    private final Key[] keys = new Key[KEYS];
    private Key spareKey = new Key();
    private final Digest digest = new Digest();
    private final Cipher cipher = new Cipher();
    private final Content content = new Content(digest, cipher);
    private final Rsa rsa = new Rsa(digest);
    private final Curve curve = new Curve();
    private final Token token = new Token();

    public SealedTokens() {
        for (int r = 0; r < ROWS; r++) {
            rows[r] = new Bytes(MOST);
        }
        for (int k = 0; k < KEYS; k++) {
            keys[k] = new Key();
        }
    }

    // ---- bytes

    public int feed(int a, int b, int c, int d, int e) {
        if (tape.many + 20 > MOST) {
            return BAD;
        }
        tape.putWord(a);
        tape.putWord(b);
        tape.putWord(c);
        tape.putWord(d);
        tape.putWord(e);
        return tape.many;
    }

    public int end(int n) {
        if (n < 0 || n > tape.many) {
            return BAD;
        }
        tape.cutTo(n);
        return n;
    }

    public int row(int r) {
        if (!isRow(r)) {
            return BAD;
        }
        rows[r].become(tape);
        tape.clear();
        return rows[r].many;
    }

    public int keep(int r) {
        if (!isRow(r)) {
            return BAD;
        }
        rows[r].become(shown);
        return rows[r].many;
    }

    public int poke(int r, int i, int x) {
        if (!isRow(r) || x < 0 || x > 255 || i < 0 || i >= rows[r].many) {
            return BAD;
        }
        rows[r].at[i] ^= x;
        return rows[r].at[i];
    }

    public int size(int r) {
        if (r == NONE) {
            return shown.many;
        }
        return isRow(r) ? rows[r].many : BAD;
    }

    public int out(int i) {
        return shown.peek(i);
    }

    // ---- texts and letters

    public int json(int r) {
        if (!isRow(r)) {
            return BAD;
        }
        int fault = reader.read(rows[r], spare);
        if (fault != NONE) {
            return -100 - fault;
        }
        Text read = spare;
        spare = hand;
        hand = read;
        return hand.count;
    }

    public int value(int i, int what) {
        if (!hand.has(i)) {
            return BAD;
        }
        switch (what) {
            case 0: return hand.kind[i];
            case 1: return hand.kind[i] >= ARRAY ? hand.inside[i] : hand.saidMany[i];
            case 2: return hand.parent[i];
            case 3: return hand.place[i];
            case 4: return hand.start[i];
            default: return BAD;
        }
    }

    public int text(int i) {
        if (!hand.has(i) || (hand.kind[i] != STRING && hand.kind[i] != NUMBER)) {
            return BAD;
        }
        return show(hand.pool, hand.saidAt[i], hand.saidMany[i]);
    }

    public int name(int i) {
        if (!hand.has(i) || !hand.isKind(hand.parent[i], OBJECT)) {
            return BAD;
        }
        return show(hand.pool, hand.nameAt[i], hand.nameMany[i]);
    }

    public int member(int i, int r) {
        if (!hand.isKind(i, OBJECT) || !isRow(r)) {
            return BAD;
        }
        return hand.named(i, rows[r], 0, rows[r].many);
    }

    public int write(int i) {
        if (!hand.has(i)) {
            return BAD;
        }
        plain.clear();
        hand.putValue(i, plain);
        return plain.lost ? LARGE : show(plain, 0, plain.many);
    }

    public int encode(int r) {
        if (!isRow(r)) {
            return BAD;
        }
        if (Bytes.lettersFor(rows[r].many) > MOST) {
            return LARGE;
        }
        shown.clear();
        shown.putLetters(rows[r], 0, rows[r].many);
        return shown.many;
    }

    public int decode(int r) {
        if (!isRow(r)) {
            return BAD;
        }
        int fault = Bytes.letterFault(rows[r], 0, rows[r].many);
        if (fault != NONE) {
            return -100 - fault;
        }
        shown.clear();
        shown.putUnlettered(rows[r], 0, rows[r].many);
        return shown.many;
    }

    // ---- digests, cipher

    public int hash(int bits, int r) {
        if ((bits != 256 && bits != 512) || !isRow(r)) {
            return BAD;
        }
        digest.start(bits);
        digest.add(rows[r], 0, rows[r].many);
        shown.clear();
        digest.finish(shown);
        return shown.many;
    }

    public int code(int bits, int key, int r) {
        if ((bits != 256 && bits != 512) || !isRow(key) || !isRow(r)) {
            return BAD;
        }
        digest.startCode(bits, rows[key], 0, rows[key].many);
        digest.add(rows[r], 0, rows[r].many);
        shown.clear();
        digest.finishCode(shown);
        return shown.many;
    }

    public int block(int key, int r, boolean back) {
        if (!isCipherKey(key) || !isRow(r) || rows[r].many != Cipher.BLOCK) {
            return BAD;
        }
        cipher.become(rows[key], 0, rows[key].many);
        shown.clear();
        cipher.putBlock(rows[r], back, shown);
        return shown.many;
    }

    public int wrap(int key, int r) {
        if (!isCipherKey(key) || !isRow(r) || !Cipher.mayWrap(rows[r].many)) {
            return BAD;
        }
        cipher.putWrapped(rows[key], rows[r], shown);
        return shown.many;
    }

    public int unwrap(int key, int r) {
        if (!isCipherKey(key) || !isRow(r) || !Cipher.mayWrap(rows[r].many - 8)) {
            return BAD;
        }
        return cipher.putUnwrapped(rows[key], rows[r], shown) ? shown.many : NONE;
    }

    public int seal(int way, int key, int beginning, int also, int r) {
        if (!waySuits(way, key, beginning) || !isRow(also) || !isRow(r)) {
            return BAD;
        }
        if (Content.sealedBytes(way, rows[r].many) + WAY_MARK[way] > MOST) {
            return LARGE;
        }
        content.lock(way, rows[key], rows[beginning], rows[also], rows[r], shown);
        return shown.many;
    }

    public int open(int way, int key, int beginning, int also, int r) {
        if (!waySuits(way, key, beginning) || !isRow(also) || !isRow(r)) {
            return BAD;
        }
        if (!content.unlock(way, rows[key], rows[beginning], rows[also], rows[r], plain)) {
            return NONE;
        }
        return show(plain, 0, plain.many);
    }

    // ---- great numbers, points

    public int power(int base, int exponent, int modulus) {
        if (!isRow(base) || !isRow(exponent) || !isRow(modulus)) {
            return BAD;
        }
        if (rows[base].many > Modulus.MOST_BYTES || rows[exponent].many > Modulus.MOST_BYTES || !Modulus.suits(rows[modulus])) {
            return BAD;
        }
        rsa.raise(rows[base], rows[exponent], rows[modulus], shown);
        return shown.many;
    }

    public int multiply(int number, int point) {
        if (!isRow(number) || rows[number].many != Curve.BYTES || (point != NONE && !isRow(point))) {
            return BAD;
        }
        if (point != NONE && (rows[point].many != 2 * Curve.BYTES || !curve.load(rows[point]))) {
            return BAD;
        }
        curve.sumUp(rows[number], point == NONE ? curve.base : curve.other, nothing, curve.base);
        return curve.putSum(shown) ? shown.many : NONE;
    }

    public int derive(int secret, int name, int u, int v, int many) {
        if (!isRow(secret) || !isRow(name) || !isRow(u) || !isRow(v) || (many != 16 && many != 32 && many != 64)) {
            return BAD;
        }
        digest.putDerived(rows[secret], rows[name], rows[u], rows[v], many, shown);
        return shown.many;
    }

    // ---- keys

    public int key(int r) {
        if (!isRow(r)) {
            return BAD;
        }
        if (reader.read(rows[r], spare) != NONE) {
            return -11;
        }
        int reason = spareKey.reasonAgainst(spare);
        if (reason != 0) {
            return -10 - reason;
        }
        if (!numbersBelong(spareKey)) {
            return -16;
        }
        for (int k = 0; k < KEYS; k++) {
            if (!keys[k].there) {
                Key free = keys[k];
                keys[k] = spareKey;
                keys[k].there = true;
                spareKey = free;
                return k;
            }
        }
        return -17;
    }

    public int drop(int key) {
        if (!isKey(key)) {
            return BAD;
        }
        keys[key].there = false;
        return 1;
    }

    public int told(int key, int what) {
        if (!isKey(key)) {
            return BAD;
        }
        Key k = keys[key];
        switch (what) {
            case 0: return k.kind;
            case 1: return k.kind == EC ? Curve.BYTES : k.main.many;
            case 2: return k.secretThere ? 1 : 0;
            case 3: return k.use;
            case 4: return k.kidThere ? k.kid.many : NONE;
            case 5: return k.alg == NONE ? 0 : 1;
            default: return BAD;
        }
    }

    public int print(int key) {
        if (!isKey(key)) {
            return BAD;
        }
        work.clear();
        keys[key].putPrinted(work);
        digest.start(256);
        digest.add(work, 0, work.many);
        shown.clear();
        digest.finish(shown);
        return shown.many;
    }

    // ---- tokens

    public int sign(int key, int alg, int head, int payload, int random) {
        boolean drawn = alg == PS256 || alg == ES256;
        if (!isKey(key) || alg < 0 || alg >= SIGNED_ALGS || !isRowOrNone(head) || !isRow(payload) || (drawn && !isRow(random))) {
            return BAD;
        }
        Key k = keys[key];
        if (!k.maySign(alg, true)) {
            return KEY;
        }
        if (head == NONE) {
            token.makeSignedHead(alg, k);
        } else {
            if (reader.read(rows[head], spare) != NONE) {
                return TEXT;
            }
            int reason = token.signedHeadReason(spare);
            if (reason != 0) {
                return reason;
            }
            if (token.alg != alg) {
                return WRONG;
            }
            token.head.become(rows[head]);
        }
        if (token.asItIs && rows[payload].holds('.')) {
            return POINT;
        }
        work.clear();
        work.putLetters(token.head, 0, token.head.many);
        work.put('.');
        if (token.asItIs) {
            work.putAll(rows[payload]);
        } else {
            work.putLetters(rows[payload], 0, rows[payload].many);
        }
        if (!makeSignature(k, alg, drawn ? rows[random] : nothing)) {
            return RANDOM;
        }
        if (work.many + 1 + Bytes.lettersFor(sealed.many) > MOST) {
            return LARGE;
        }
        work.put('.');
        work.putLetters(sealed, 0, sealed.many);
        return show(work, 0, work.many);
    }

    public int verify(int r) {
        if (!isRow(r)) {
            return BAD;
        }
        Bytes row = rows[r];
        if (!token.split(row, 3)) {
            return FORM;
        }
        if (token.isFaulty(row, 0)) {
            return PART;
        }
        token.readPart(row, 0, token.head);
        if (reader.read(token.head, spare) != NONE) {
            return TEXT;
        }
        int reason = token.signedHeadReason(spare);
        if (reason != 0) {
            return reason;
        }
        if ((!token.asItIs && token.isFaulty(row, 1)) || token.isFaulty(row, 2)) {
            return PART;
        }
        work.clear();
        work.putPart(row, 0, token.partEnd(1));
        token.readPart(row, 2, sealed);
        boolean may = false;
        for (int k = 0; k < KEYS; k++) {
            if (keys[k].there && token.kidSuits(spare, keys[k]) && keys[k].maySign(token.alg, false)) {
                may = true;
                if (signatureIsRight(keys[k])) {
                    showPayload(row);
                    return k;
                }
            }
        }
        return may ? WRONG : KEY;
    }

    public int encrypt(int key, int alg, int enc, int payload, int random, int u, int v) {
        if (!isKey(key) || alg < 0 || alg >= SEALED_ALGS || enc < 0 || enc >= WAYS || !isRow(payload) || !isRow(random)) {
            return BAD;
        }
        if (alg >= ECDH && (!isRowOrNone(u) || !isRowOrNone(v))) {
            return BAD;
        }
        Key k = keys[key];
        if (!k.maySeal(alg, enc, false)) {
            return KEY;
        }
        if (!token.draw(alg, enc, rows[random]) || (alg >= ECDH && !curve.isSecret(token.fresh, 0))) {
            return RANDOM;
        }
        if (alg >= ECDH) {
            curve.sumUp(token.fresh, curve.base, nothing, curve.base);
            curve.putSum(token.point);
        }
        token.makeSealedHead(k, isRow(u) ? rows[u] : null, isRow(v) ? rows[v] : null);
        makeSealedKey(k, isRow(u) ? rows[u] : nothing, isRow(v) ? rows[v] : nothing);
        if (token.head.lost || token.sealedLetters(rows[payload].many) > MOST) {
            return LARGE;
        }
        work.clear();
        work.putLetters(token.head, 0, token.head.many);
        content.lock(enc, token.contentKey, token.first, work, rows[payload], sealed);
        work.putLetterPart(token.sealedKey, 0, token.sealedKey.many);
        work.putLetterPart(token.first, 0, token.first.many);
        work.putLetterPart(sealed, 0, sealed.many - WAY_MARK[enc]);
        work.putLetterPart(sealed, sealed.many - WAY_MARK[enc], sealed.many);
        return show(work, 0, work.many);
    }

    public int decrypt(int r) {
        if (!isRow(r)) {
            return BAD;
        }
        Bytes row = rows[r];
        if (!token.split(row, 5)) {
            return FORM;
        }
        for (int p = 0; p < 5; p++) {
            if (token.isFaulty(row, p)) {
                return PART;
            }
        }
        token.readPart(row, 0, token.head);
        if (reader.read(token.head, spare) != NONE) {
            return TEXT;
        }
        int reason = token.sealedHeadReason(spare);
        if (reason != 0) {
            return reason;
        }
        if (token.alg >= ECDH && !curve.load(token.point)) {
            return HEAD;
        }
        work.clear();
        work.putPart(row, 0, token.partEnd(0));
        boolean whole = token.readSealedParts(row, sealed);
        boolean may = false;
        for (int k = 0; k < KEYS; k++) {
            if (keys[k].there && token.kidSuits(spare, keys[k]) && keys[k].maySeal(token.alg, token.way, true)) {
                may = true;
                if (whole && contentKeyComes(keys[k])
                    && content.unlock(token.way, token.contentKey, token.first, work, sealed, plain)) {
                    show(plain, 0, plain.many);
                    return k;
                }
            }
        }
        return may ? WRONG : KEY;
    }

    // ---- what the calls share

    private boolean isRow(int r) {
        return r >= 0 && r < ROWS;
    }

    private boolean isRowOrNone(int r) {
        return r == NONE || isRow(r);
    }

    private boolean isKey(int k) {
        return k >= 0 && k < KEYS && keys[k].there;
    }

    private boolean isCipherKey(int r) {
        return isRow(r) && (rows[r].many == 16 || rows[r].many == 32);
    }

    private boolean waySuits(int way, int key, int beginning) {
        return way >= 0 && way < WAYS && isRow(key) && isRow(beginning)
            && rows[key].many == WAY_KEY[way] && rows[beginning].many == WAY_FIRST[way];
    }

    private int show(Bytes from, int start, int count) {
        shown.clear();
        shown.putPart(from, start, count);
        return shown.many;
    }

    private boolean numbersBelong(Key k) {
        switch (k.kind) {
            case RSA: return !k.secretThere || rsa.isPair(k.main, k.exponent, k.secret);
            case EC: return curve.load(k.main) && (!k.secretThere || curve.isPair(k.secret, k.main));
            default: return true;
        }
    }

    /** The names of signed algs, and behind them those of sealed ones. */
    private static String algName(int alg) {
        switch (alg) {
            case HS256: return "HS256";
            case HS512: return "HS512";
            case RS256: return "RS256";
            case PS256: return "PS256";
            case ES256: return "ES256";
            case SIGNED_ALGS + DIR: return "dir";
            case SIGNED_ALGS + A128KW: return "A128KW";
            case SIGNED_ALGS + A256KW: return "A256KW";
            case SIGNED_ALGS + OAEP: return "RSA-OAEP-256";
            case SIGNED_ALGS + ECDH: return "ECDH-ES";
            default: return "ECDH-ES+A128KW";
        }
    }

    private static String wayName(int way) {
        switch (way) {
            case 0: return "A128CBC-HS256";
            case 1: return "A256CBC-HS512";
            case 2: return "A128GCM";
            default: return "A256GCM";
        }
    }

    private void showPayload(Bytes row) {
        if (token.asItIs) {
            show(row, token.partStart(1), token.partEnd(1) - token.partStart(1));
        } else {
            token.readPart(row, 1, shown);
        }
    }

    /** Of what stands in work; false: what was drawn does not serve. */
    private boolean makeSignature(Key k, int alg, Bytes random) {
        sealed.clear();
        if (alg == HS256 || alg == HS512) {
            codeWork(k, alg, sealed);
            return true;
        }
        hashWork(plain);
        switch (alg) {
            case RS256: rsa.signPkcs(plain, k.secret, k.main, sealed); return true;
            case PS256: return rsa.signPss(plain, random, k.secret, k.main, sealed);
            default: return curve.putSignature(plain, k.secret, random, sealed);
        }
    }

    private boolean signatureIsRight(Key k) {
        plain.clear();
        if (token.alg == HS256 || token.alg == HS512) {
            codeWork(k, token.alg, plain);
            return plain.same(sealed);
        }
        hashWork(plain);
        switch (token.alg) {
            case RS256: return rsa.isPkcsRight(plain, sealed, k.exponent, k.main);
            case PS256: return rsa.isPssRight(plain, sealed, k.exponent, k.main);
            default: return curve.isSignatureRight(plain, sealed, k.main);
        }
    }

    private void codeWork(Key k, int alg, Bytes to) {
        digest.startCode(alg == HS256 ? 256 : 512, k.main, 0, k.main.many);
        digest.add(work, 0, work.many);
        digest.finishCode(to);
    }

    private void hashWork(Bytes to) {
        to.clear();
        digest.start(256);
        digest.add(work, 0, work.many);
        digest.finish(to);
    }

    /** The bytes derived of a secret and a point come to the token's agreed ones. */
    private void agree(Bytes secret, Bytes point, Bytes u, Bytes v) {
        curve.load(point);
        curve.sumUp(secret, curve.other, nothing, curve.base);
        curve.putSum(token.agreed);
        token.agreed.cutTo(Curve.BYTES);
        token.label.clear();
        token.label.putText(token.alg == ECDH ? wayName(token.way) : algName(SIGNED_ALGS + token.alg));
        digest.putDerived(token.agreed, token.label, u, v, token.alg == ECDH ? WAY_KEY[token.way] : 16, token.agreed);
    }

    private void makeSealedKey(Key k, Bytes u, Bytes v) {
        token.sealedKey.clear();
        if (token.alg >= ECDH) {
            agree(token.fresh, k.main, u, v);
        }
        switch (token.alg) {
            case DIR: token.contentKey.become(k.main); break;
            case OAEP: rsa.sealOaep(token.contentKey, token.seed, k.exponent, k.main, token.sealedKey); break;
            case ECDH: token.contentKey.become(token.agreed); break;
            case ECDH_KW: cipher.putWrapped(token.agreed, token.contentKey, token.sealedKey); break;
            default: cipher.putWrapped(k.main, token.contentKey, token.sealedKey); break;
        }
    }

    private boolean contentKeyComes(Key k) {
        if (token.alg >= ECDH) {
            agree(k.secret, token.point, token.u, token.v);
        }
        switch (token.alg) {
            case DIR: token.contentKey.become(k.main); return token.sealedKey.many == 0;
            case OAEP: return rsa.openOaep(token.sealedKey, k.secret, k.main, token.contentKey);
            case ECDH: token.contentKey.become(token.agreed); return token.sealedKey.many == 0;
            case ECDH_KW: return cipher.putUnwrapped(token.agreed, token.sealedKey, token.contentKey);
            default: return cipher.putUnwrapped(k.main, token.sealedKey, token.contentKey);
        }
    }

    /** Bytes (0 .. 255) in a fixed room, and letters for them. */
    private static final class Bytes {
        private static final String LETTERS = "ABCDEFGHIJKLMNOPQRSTUVWXYZabcdefghijklmnopqrstuvwxyz0123456789-_";

        final int[] at;
        int many;
        /** A byte came for which there was no room. */
        boolean lost;

        Bytes(int room) {
            at = new int[Math.max(room, 0)];
        }

        void clear() {
            many = 0;
            lost = false;
        }

        void cutTo(int n) {
            many = Math.max(0, Math.min(n, many));
        }

        int get(int i) {
            return i >= 0 && i < many ? at[i] : 0;
        }

        /** NONE beyond the end, so that a reader sees the end as a byte that never fits. */
        int peek(int i) {
            return i >= 0 && i < many ? at[i] : NONE;
        }

        void set(int i, int x) {
            if (i >= 0 && i < many) {
                at[i] = x & 255;
            }
        }

        void put(int x) {
            if (many < at.length) {
                at[many] = x & 255;
                many++;
            } else {
                lost = true;
            }
        }

        void putSame(int x, int count) {
            for (int i = 0; i < count; i++) {
                put(x);
            }
        }

        void putWord(int x) {
            put(x >>> 24);
            put(x >>> 16);
            put(x >>> 8);
            put(x);
        }

        void putText(String s) {
            for (int i = 0; i < s.length(); i++) {
                put(s.charAt(i));
            }
        }

        void putPart(Bytes from, int start, int count) {
            if (start < 0 || count < 0 || start > from.many - count) {
                return;
            }
            int fits = Math.min(count, at.length - many);
            System.arraycopy(from.at, start, at, many, fits);
            many += fits;
            lost = lost || fits < count;
        }

        void putAll(Bytes from) {
            putPart(from, 0, from.many);
        }

        void become(Bytes from) {
            clear();
            putPart(from, 0, from.many);
        }

        boolean holds(int x) {
            for (int i = 0; i < many; i++) {
                if (at[i] == x) {
                    return true;
                }
            }
            return false;
        }

        boolean same(Bytes other) {
            return many == other.many && compare(this, 0, other, 0, many) == 0;
        }

        /** As numbers of equally many bytes. */
        static int compare(Bytes a, int fromA, Bytes b, int fromB, int count) {
            for (int i = 0; i < count; i++) {
                int x = a.get(fromA + i);
                int y = b.get(fromB + i);
                if (x != y) {
                    return x < y ? -1 : 1;
                }
            }
            return 0;
        }

        /** As numbers that have no 0s in front. */
        static boolean isBelow(Bytes a, Bytes b) {
            return a.many < b.many || (a.many == b.many && compare(a, 0, b, 0, a.many) < 0);
        }

        static int lettersFor(int bytes) {
            return (bytes * 4 + 2) / 3;
        }

        static int bytesFor(int letters) {
            return letters * 3 / 4;
        }

        static int letterValue(int c) {
            if (c >= 'A' && c <= 'Z') {
                return c - 'A';
            }
            if (c >= 'a' && c <= 'z') {
                return c - 'a' + 26;
            }
            if (c >= '0' && c <= '9') {
                return c - '0' + 52;
            }
            return c == '-' ? 62 : c == '_' ? 63 : NONE;
        }

        /** The fault of the letters from start on and before stop, counted from start; NONE. */
        static int letterFault(Bytes from, int start, int stop) {
            for (int i = start; i < stop; i++) {
                if (letterValue(from.get(i)) == NONE) {
                    return i - start;
                }
            }
            int count = Math.max(stop - start, 0);
            int over = count & 3;
            if (over == 1) {
                return count;
            }
            int unused = over == 2 ? 15 : over == 3 ? 3 : 0;
            boolean clean = unused == 0 || (letterValue(from.get(stop - 1)) & unused) == 0;
            return clean ? NONE : count - 1;
        }

        void putLetters(Bytes from, int start, int stop) {
            int held = 0;
            int bits = 0;
            for (int i = start; i < stop; i++) {
                held = (held << 8 | from.get(i)) & 0xffff;
                bits += 8;
                for (; bits >= 6; bits -= 6) {
                    put(LETTERS.charAt(held >> (bits - 6) & 63));
                }
            }
            if (bits > 0) {
                put(LETTERS.charAt(held << (6 - bits) & 63));
            }
        }

        void putLetterPart(Bytes from, int start, int stop) {
            put('.');
            putLetters(from, start, stop);
        }

        /** The letters have no fault. */
        void putUnlettered(Bytes from, int start, int stop) {
            int held = 0;
            int bits = 0;
            for (int i = start; i < stop; i++) {
                held = (held << 6 | letterValue(from.get(i))) & 0xffff;
                bits += 6;
                if (bits >= 8) {
                    bits -= 8;
                    put(held >> bits);
                }
            }
        }
    }

    /** The values of a text that was read. */
    private static final class Text {
        static final int MOST_VALUES = 600;

        int count;
        final int[] kind = new int[MOST_VALUES];
        final int[] parent = new int[MOST_VALUES];
        final int[] place = new int[MOST_VALUES];
        final int[] start = new int[MOST_VALUES];
        final int[] inside = new int[MOST_VALUES];
        final int[] saidAt = new int[MOST_VALUES];
        final int[] saidMany = new int[MOST_VALUES];
        final int[] nameAt = new int[MOST_VALUES];
        final int[] nameMany = new int[MOST_VALUES];
        /** What strings and names say, and the bytes of numbers: never more than the text has. */
        final Bytes pool = new Bytes(MOST);

        void clear() {
            count = 0;
            pool.clear();
        }

        boolean has(int i) {
            return i >= 0 && i < count;
        }

        boolean isKind(int i, int wanted) {
            return has(i) && kind[i] == wanted;
        }

        /** There is room: the reader has asked. */
        int begin(int itsKind, int itsStart, int itsParent) {
            int i = count;
            count++;
            kind[i] = itsKind;
            start[i] = itsStart;
            parent[i] = itsParent;
            inside[i] = 0;
            saidAt[i] = pool.many;
            saidMany[i] = 0;
            place[i] = 0;
            if (itsParent >= 0) {
                place[i] = inside[itsParent];
                inside[itsParent]++;
            }
            return i;
        }

        boolean poolSays(int at, int many, Bytes bytes, int from, int count) {
            return many == count && Bytes.compare(pool, at, bytes, from, count) == 0;
        }

        /** The member whose name says these bytes; NONE. */
        int named(int object, Bytes bytes, int from, int many) {
            if (!isKind(object, OBJECT)) {
                return NONE;
            }
            for (int i = object + 1; i < count; i++) {
                if (parent[i] == object && poolSays(nameAt[i], nameMany[i], bytes, from, many)) {
                    return i;
                }
            }
            return NONE;
        }

        boolean poolSpells(int at, int many, String s) {
            if (many != s.length()) {
                return false;
            }
            for (int i = 0; i < many; i++) {
                if (pool.get(at + i) != s.charAt(i)) {
                    return false;
                }
            }
            return true;
        }

        int find(int object, String wanted) {
            if (!isKind(object, OBJECT)) {
                return NONE;
            }
            for (int i = object + 1; i < count; i++) {
                if (parent[i] == object && poolSpells(nameAt[i], nameMany[i], wanted)) {
                    return i;
                }
            }
            return NONE;
        }

        boolean says(int i, String wanted) {
            return isKind(i, STRING) && poolSpells(saidAt[i], saidMany[i], wanted);
        }

        boolean saysSame(int i, Bytes wanted) {
            return isKind(i, STRING) && poolSays(saidAt[i], saidMany[i], wanted, 0, wanted.many);
        }

        boolean isStringOrNone(int i) {
            return i == NONE || isKind(i, STRING);
        }

        boolean areLetters(int i) {
            return isKind(i, STRING) && Bytes.letterFault(pool, saidAt[i], saidAt[i] + saidMany[i]) == NONE;
        }

        /** Behind what is there; false: they stand for fewer or more bytes than may be. */
        boolean putLettered(int i, int least, int most, Bytes to) {
            if (!has(i)) {
                return false;
            }
            int bytes = Bytes.bytesFor(saidMany[i]);
            if (bytes < least || bytes > most) {
                return false;
            }
            to.putUnlettered(pool, saidAt[i], saidAt[i] + saidMany[i]);
            return true;
        }

        /** Values inside a value have the numbers right behind it, so no stack is needed. */
        void putValue(int top, Bytes to) {
            int open = NONE;
            for (int i = top; i < count && (i == top || parent[i] >= top); i++) {
                if (i > top) {
                    open = closeTo(parent[i], open, to);
                    if (place[i] > 0) {
                        to.put(',');
                    }
                    if (isKind(open, OBJECT)) {
                        putString(pool, nameAt[i], nameMany[i], to);
                        to.put(':');
                    }
                }
                putStart(i, to);
                if (kind[i] >= ARRAY) {
                    open = i;
                }
            }
            if (open != NONE) {
                closeTo(parent[top], open, to);
            }
        }

        private int closeTo(int outer, int open, Bytes to) {
            int inner = open;
            for (int step = 0; step < count && inner != outer && inner >= 0; step++) {
                to.put(kind[inner] == OBJECT ? '}' : ']');
                inner = parent[inner];
            }
            return inner;
        }

        private void putStart(int i, Bytes to) {
            switch (kind[i]) {
                case NULL: to.putText("null"); break;
                case FALSE: to.putText("false"); break;
                case TRUE: to.putText("true"); break;
                case NUMBER: to.putPart(pool, saidAt[i], saidMany[i]); break;
                case STRING: putString(pool, saidAt[i], saidMany[i], to); break;
                case ARRAY: to.put('['); break;
                default: to.put('{'); break;
            }
        }

        static void putString(Bytes from, int start, int many, Bytes to) {
            to.put('"');
            for (int i = start; i < start + many; i++) {
                int c = from.get(i);
                int escape = shortEscape(c);
                if (escape != NONE) {
                    to.put('\\');
                    to.put(escape);
                } else if (c < 32) {
                    to.putText("\\u00");
                    to.put(c < 16 ? '0' : '1');
                    to.put((c & 15) < 10 ? '0' + (c & 15) : 'a' - 10 + (c & 15));
                } else {
                    to.put(c);
                }
            }
            to.put('"');
        }

        private static int shortEscape(int c) {
            switch (c) {
                case '"': return '"';
                case '\\': return '\\';
                case 8: return 'b';
                case 12: return 'f';
                case 10: return 'n';
                case 13: return 'r';
                case 9: return 't';
                default: return NONE;
            }
        }
    }

    /** Reads texts of values by their grammar, without recursion: the brackets that are open are a chain of parents. */
    private static final class Reader {
        private static final int VALUE = 0, FIRST_VALUE = 1, MEMBER = 2, FIRST_MEMBER = 3, COLON = 4, AFTER = 5;
        private static final int MOST_OPEN = 40;

        private Bytes source;
        private Text to;
        private int at;
        private int fault;
        private int open;
        private int depth;
        private int state;
        private int nameAt;
        private int nameMany;

        Reader(Bytes itsSource, Text itsText) {
            source = itsSource;
            to = itsText;
        }

        /** The fault's place; NONE. */
        int read(Bytes from, Text into) {
            source = from;
            to = into;
            to.clear();
            at = 0;
            fault = NONE;
            open = NONE;
            depth = 0;
            state = VALUE;
            boolean fine = true;
            for (int step = 0; step <= source.many && fine; step++) {
                skipBlanks();
                int c = source.peek(at);
                if (c == NONE) {
                    return state == AFTER && open == NONE ? NONE : at;
                }
                switch (state) {
                    case VALUE: fine = begin(c); break;
                    case FIRST_VALUE: fine = c == ']' ? close() : begin(c); break;
                    case MEMBER: fine = memberName(c); break;
                    case FIRST_MEMBER: fine = c == '}' ? close() : memberName(c); break;
                    case COLON: fine = c == ':' ? goOn(VALUE) : wrong(at); break;
                    default: fine = after(c); break;
                }
            }
            return fault;
        }

        private boolean wrong(int place) {
            fault = place;
            return false;
        }

        private boolean goOn(int next) {
            at++;
            state = next;
            return true;
        }

        private void skipBlanks() {
            while (at < source.many && isBlank(source.get(at))) {
                at++;
            }
        }

        private static boolean isBlank(int c) {
            return c == 32 || c == 9 || c == 10 || c == 13;
        }

        private boolean close() {
            open = to.has(open) ? to.parent[open] : NONE;
            depth--;
            return goOn(AFTER);
        }

        private boolean after(int c) {
            if (!to.has(open)) {
                return wrong(at);
            }
            boolean inObject = to.kind[open] == OBJECT;
            if (c == ',') {
                return goOn(inObject ? MEMBER : VALUE);
            }
            return c == (inObject ? '}' : ']') ? close() : wrong(at);
        }

        private boolean memberName(int c) {
            int quote = at;
            if (c != '"') {
                return wrong(at);
            }
            nameAt = to.pool.many;
            if (!string()) {
                return false;
            }
            nameMany = to.pool.many - nameAt;
            if (to.named(open, to.pool, nameAt, nameMany) != NONE) {
                return wrong(quote);
            }
            state = COLON;
            return true;
        }

        private static int kindBegunBy(int c) {
            switch (c) {
                case 'n': return NULL;
                case 'f': return FALSE;
                case 't': return TRUE;
                case '"': return STRING;
                case '[': return ARRAY;
                case '{': return OBJECT;
                default: return c == '-' || (c >= '0' && c <= '9') ? NUMBER : NONE;
            }
        }

        private boolean begin(int c) {
            int kind = kindBegunBy(c);
            if (kind == NONE || to.count >= Text.MOST_VALUES || (kind >= ARRAY && depth >= MOST_OPEN)) {
                return wrong(at);
            }
            int i = to.begin(kind, at, open);
            to.nameAt[i] = nameAt;
            to.nameMany[i] = nameMany;
            if (kind >= ARRAY) {
                open = i;
                depth++;
                return goOn(kind == ARRAY ? FIRST_VALUE : FIRST_MEMBER);
            }
            boolean fine;
            switch (kind) {
                case NULL: fine = word("null"); break;
                case FALSE: fine = word("false"); break;
                case TRUE: fine = word("true"); break;
                case NUMBER: fine = number(); break;
                default: fine = string(); break;
            }
            to.saidMany[i] = to.pool.many - to.saidAt[i];
            state = AFTER;
            return fine;
        }

        private boolean word(String letters) {
            for (int i = 0; i < letters.length(); i++) {
                if (source.peek(at) != letters.charAt(i)) {
                    return wrong(at);
                }
                at++;
            }
            return true;
        }

        private boolean number() {
            int from = at;
            if (source.peek(at) == '-') {
                at++;
            }
            if (source.peek(at) == '0') {
                at++;
            } else if (!digits()) {
                return false;
            }
            if (source.peek(at) == '.') {
                at++;
                if (!digits()) {
                    return false;
                }
            }
            if (source.peek(at) == 'e' || source.peek(at) == 'E') {
                at++;
                if (source.peek(at) == '+' || source.peek(at) == '-') {
                    at++;
                }
                if (!digits()) {
                    return false;
                }
            }
            to.pool.putPart(source, from, at - from);
            return true;
        }

        private boolean digits() {
            int from = at;
            while (at < source.many && source.get(at) >= '0' && source.get(at) <= '9') {
                at++;
            }
            return at > from || wrong(at);
        }

        private boolean string() {
            at++;
            for (int step = 0; step <= source.many; step++) {
                int c = source.peek(at);
                if (c == '"') {
                    at++;
                    return true;
                }
                if (c < 32) {
                    return wrong(at);
                }
                if (c == '\\') {
                    int point = escape();
                    if (point == NONE) {
                        return false;
                    }
                    putPoint(point);
                } else if (c < 128) {
                    to.pool.put(c);
                    at++;
                } else if (!longForm(c)) {
                    return false;
                }
            }
            return wrong(at);
        }

        /** A sign of two to four bytes: only the first byte behind the lead has bounds of its own. */
        private boolean longForm(int lead) {
            int more = lead >= 0xc2 && lead <= 0xdf ? 1 : lead >= 0xe0 && lead <= 0xef ? 2 : lead >= 0xf0 && lead <= 0xf4 ? 3 : 0;
            if (more == 0) {
                return wrong(at);
            }
            int low = lead == 0xe0 ? 0xa0 : lead == 0xf0 ? 0x90 : 0x80;
            int high = lead == 0xed ? 0x9f : lead == 0xf4 ? 0x8f : 0xbf;
            to.pool.put(lead);
            at++;
            for (int i = 0; i < more; i++) {
                int c = source.peek(at);
                if (c < low || c > high) {
                    return wrong(at);
                }
                to.pool.put(c);
                at++;
                low = 0x80;
                high = 0xbf;
            }
            return true;
        }

        /** The sign that an escape stands for; NONE: a fault. */
        private int escape() {
            at++;
            int c = source.peek(at);
            if (c != 'u') {
                int said = shortEscaped(c);
                if (said == NONE) {
                    fault = at;
                }
                at++;
                return said;
            }
            at++;
            int high = fourDigits(false);
            if (high < 0xd800 || high > 0xdbff) {
                return high;
            }
            if (!word("\\u")) {
                return NONE;
            }
            int low = fourDigits(true);
            return low == NONE ? NONE : 0x10000 + (high - 0xd800 << 10) + (low - 0xdc00);
        }

        private static int shortEscaped(int c) {
            switch (c) {
                case '"': return '"';
                case '\\': return '\\';
                case '/': return '/';
                case 'b': return 8;
                case 'f': return 12;
                case 'n': return 10;
                case 'r': return 13;
                case 't': return 9;
                default: return NONE;
            }
        }

        /** The second digit tells already whether it is the low surrogate that must, or must not, come. */
        private int fourDigits(boolean lowWanted) {
            int said = 0;
            for (int i = 0; i < 4; i++) {
                int digit = hexValue(source.peek(at));
                boolean fits = digit != NONE;
                if (i == 0 && lowWanted) {
                    fits = digit == 13;
                }
                if (i == 1 && said == 13) {
                    fits = fits && (digit >= 12) == lowWanted;
                }
                if (!fits) {
                    fault = at;
                    return NONE;
                }
                said = said << 4 | digit;
                at++;
            }
            return said;
        }

        private static int hexValue(int c) {
            if (c >= '0' && c <= '9') {
                return c - '0';
            }
            if (c >= 'a' && c <= 'f') {
                return c - 'a' + 10;
            }
            return c >= 'A' && c <= 'F' ? c - 'A' + 10 : NONE;
        }

        private void putPoint(int point) {
            Bytes pool = to.pool;
            if (point < 0x80) {
                pool.put(point);
            } else if (point < 0x800) {
                pool.put(0xc0 | point >> 6);
                pool.put(0x80 | (point & 63));
            } else if (point < 0x10000) {
                pool.put(0xe0 | point >> 12);
                pool.put(0x80 | (point >> 6 & 63));
                pool.put(0x80 | (point & 63));
            } else {
                pool.put(0xf0 | point >> 18);
                pool.put(0x80 | (point >> 12 & 63));
                pool.put(0x80 | (point >> 6 & 63));
                pool.put(0x80 | (point & 63));
            }
        }
    }

    /** SHA-256 and SHA-512, and HMAC and derived bytes by them. */
    private static final class Digest {
        private static final int[] START_256 = {
            0x6a09e667, 0xbb67ae85, 0x3c6ef372, 0xa54ff53a, 0x510e527f, 0x9b05688c, 0x1f83d9ab, 0x5be0cd19
        };
        private static final int[] ROUND_256 = {
            0x428a2f98, 0x71374491, 0xb5c0fbcf, 0xe9b5dba5, 0x3956c25b, 0x59f111f1, 0x923f82a4, 0xab1c5ed5,
            0xd807aa98, 0x12835b01, 0x243185be, 0x550c7dc3, 0x72be5d74, 0x80deb1fe, 0x9bdc06a7, 0xc19bf174,
            0xe49b69c1, 0xefbe4786, 0x0fc19dc6, 0x240ca1cc, 0x2de92c6f, 0x4a7484aa, 0x5cb0a9dc, 0x76f988da,
            0x983e5152, 0xa831c66d, 0xb00327c8, 0xbf597fc7, 0xc6e00bf3, 0xd5a79147, 0x06ca6351, 0x14292967,
            0x27b70a85, 0x2e1b2138, 0x4d2c6dfc, 0x53380d13, 0x650a7354, 0x766a0abb, 0x81c2c92e, 0x92722c85,
            0xa2bfe8a1, 0xa81a664b, 0xc24b8b70, 0xc76c51a3, 0xd192e819, 0xd6990624, 0xf40e3585, 0x106aa070,
            0x19a4c116, 0x1e376c08, 0x2748774c, 0x34b0bcb5, 0x391c0cb3, 0x4ed8aa4a, 0x5b9cca4f, 0x682e6ff3,
            0x748f82ee, 0x78a5636f, 0x84c87814, 0x8cc70208, 0x90befffa, 0xa4506ceb, 0xbef9a3f7, 0xc67178f2
        };
        private static final long[] START_512 = {
            0x6a09e667f3bcc908L, 0xbb67ae8584caa73bL, 0x3c6ef372fe94f82bL, 0xa54ff53a5f1d36f1L,
            0x510e527fade682d1L, 0x9b05688c2b3e6c1fL, 0x1f83d9abfb41bd6bL, 0x5be0cd19137e2179L
        };
        private static final long[] ROUND_512 = {
            0x428a2f98d728ae22L, 0x7137449123ef65cdL, 0xb5c0fbcfec4d3b2fL, 0xe9b5dba58189dbbcL,
            0x3956c25bf348b538L, 0x59f111f1b605d019L, 0x923f82a4af194f9bL, 0xab1c5ed5da6d8118L,
            0xd807aa98a3030242L, 0x12835b0145706fbeL, 0x243185be4ee4b28cL, 0x550c7dc3d5ffb4e2L,
            0x72be5d74f27b896fL, 0x80deb1fe3b1696b1L, 0x9bdc06a725c71235L, 0xc19bf174cf692694L,
            0xe49b69c19ef14ad2L, 0xefbe4786384f25e3L, 0x0fc19dc68b8cd5b5L, 0x240ca1cc77ac9c65L,
            0x2de92c6f592b0275L, 0x4a7484aa6ea6e483L, 0x5cb0a9dcbd41fbd4L, 0x76f988da831153b5L,
            0x983e5152ee66dfabL, 0xa831c66d2db43210L, 0xb00327c898fb213fL, 0xbf597fc7beef0ee4L,
            0xc6e00bf33da88fc2L, 0xd5a79147930aa725L, 0x06ca6351e003826fL, 0x142929670a0e6e70L,
            0x27b70a8546d22ffcL, 0x2e1b21385c26c926L, 0x4d2c6dfc5ac42aedL, 0x53380d139d95b3dfL,
            0x650a73548baf63deL, 0x766a0abb3c77b2a8L, 0x81c2c92e47edaee6L, 0x92722c851482353bL,
            0xa2bfe8a14cf10364L, 0xa81a664bbc423001L, 0xc24b8b70d0f89791L, 0xc76c51a30654be30L,
            0xd192e819d6ef5218L, 0xd69906245565a910L, 0xf40e35855771202aL, 0x106aa07032bbd1b8L,
            0x19a4c116b8d2d0c8L, 0x1e376c085141ab53L, 0x2748774cdf8eeb99L, 0x34b0bcb5e19b48a8L,
            0x391c0cb3c5c95a63L, 0x4ed8aa4ae3418acbL, 0x5b9cca4f7763e373L, 0x682e6ff3d6b2b8a3L,
            0x748f82ee5defb2fcL, 0x78a5636f43172f60L, 0x84c87814a1f0ab72L, 0x8cc702081a6439ecL,
            0x90befffa23631e28L, 0xa4506cebde82bde9L, 0xbef9a3f7b2c67915L, 0xc67178f2e372532bL,
            0xca273eceea26619cL, 0xd186b8c721c0c207L, 0xeada7dd6cde0eb1eL, 0xf57d4f7fee6ed178L,
            0x06f067aa72176fbaL, 0x0a637dc5a2c898a6L, 0x113f9804bef90daeL, 0x1b710b35131c471bL,
            0x28db77f523047d84L, 0x32caab7b40c72493L, 0x3c9ebe0a15c9bebcL, 0x431d67c49c100d4cL,
            0x4cc5d4becb3e42b6L, 0x597f299cfc657e2aL, 0x5fcb6fab3ad6faecL, 0x6c44198c4a475817L
        };

        private boolean wide;
        private int blockBytes = 64;
        private final int[] block = new int[128];
        private int filled;
        private int total;
        private final int[] state = new int[8];
        private final int[] plan = new int[64];
        private final long[] wideState = new long[8];
        private final long[] widePlan = new long[80];
        private final int[] keyBlock = new int[128];
        private final Bytes inner = new Bytes(64);

        void start(int bits) {
            wide = bits == 512;
            blockBytes = wide ? 128 : 64;
            filled = 0;
            total = 0;
            System.arraycopy(START_256, 0, state, 0, 8);
            System.arraycopy(START_512, 0, wideState, 0, 8);
        }

        void add(Bytes from, int start, int stop) {
            for (int i = start; i < stop; i++) {
                addByte(from.get(i));
            }
        }

        void addWord(int x) {
            addByte(x >>> 24);
            addByte(x >>> 16 & 255);
            addByte(x >>> 8 & 255);
            addByte(x & 255);
        }

        private void addByte(int x) {
            block[filled] = x;
            filled++;
            total++;
            if (filled >= blockBytes) {
                filled = 0;
                if (wide) {
                    mixWide();
                } else {
                    mix();
                }
            }
        }

        /** The digest comes behind what is there. */
        void finish(Bytes to) {
            int bits = 8 * total;
            int lengthBytes = wide ? 16 : 8;
            addByte(128);
            for (int i = 0; i < 128 && filled != blockBytes - lengthBytes; i++) {
                addByte(0);
            }
            for (int i = lengthBytes - 1; i >= 0; i--) {
                addByte(i < 4 ? bits >>> 8 * i & 255 : 0);
            }
            for (int i = 0; i < 8; i++) {
                if (wide) {
                    to.putWord((int) (wideState[i] >>> 32));
                    to.putWord((int) wideState[i]);
                } else {
                    to.putWord(state[i]);
                }
            }
        }

        private void mix() {
            int[] w = plan;
            for (int i = 0; i < 16; i++) {
                w[i] = block[4 * i] << 24 | block[4 * i + 1] << 16 | block[4 * i + 2] << 8 | block[4 * i + 3];
            }
            for (int i = 16; i < 64; i++) {
                int x = w[i - 15];
                int y = w[i - 2];
                int s0 = (x >>> 7 | x << 25) ^ (x >>> 18 | x << 14) ^ x >>> 3;
                int s1 = (y >>> 17 | y << 15) ^ (y >>> 19 | y << 13) ^ y >>> 10;
                w[i] = w[i - 16] + s0 + w[i - 7] + s1;
            }
            int a = state[0], b = state[1], c = state[2], d = state[3];
            int e = state[4], f = state[5], g = state[6], h = state[7];
            for (int i = 0; i < 64; i++) {
                int s1 = (e >>> 6 | e << 26) ^ (e >>> 11 | e << 21) ^ (e >>> 25 | e << 7);
                int first = h + s1 + (e & f ^ ~e & g) + ROUND_256[i] + w[i];
                int s0 = (a >>> 2 | a << 30) ^ (a >>> 13 | a << 19) ^ (a >>> 22 | a << 10);
                int second = s0 + (a & b ^ a & c ^ b & c);
                h = g;
                g = f;
                f = e;
                e = d + first;
                d = c;
                c = b;
                b = a;
                a = first + second;
            }
            state[0] += a;
            state[1] += b;
            state[2] += c;
            state[3] += d;
            state[4] += e;
            state[5] += f;
            state[6] += g;
            state[7] += h;
        }

        private void mixWide() {
            long[] w = widePlan;
            for (int i = 0; i < 16; i++) {
                long word = 0;
                for (int j = 0; j < 8; j++) {
                    word = word << 8 | block[8 * i + j];
                }
                w[i] = word;
            }
            for (int i = 16; i < 80; i++) {
                long x = w[i - 15];
                long y = w[i - 2];
                long s0 = (x >>> 1 | x << 63) ^ (x >>> 8 | x << 56) ^ x >>> 7;
                long s1 = (y >>> 19 | y << 45) ^ (y >>> 61 | y << 3) ^ y >>> 6;
                w[i] = w[i - 16] + s0 + w[i - 7] + s1;
            }
            long a = wideState[0], b = wideState[1], c = wideState[2], d = wideState[3];
            long e = wideState[4], f = wideState[5], g = wideState[6], h = wideState[7];
            for (int i = 0; i < 80; i++) {
                long s1 = (e >>> 14 | e << 50) ^ (e >>> 18 | e << 46) ^ (e >>> 41 | e << 23);
                long first = h + s1 + (e & f ^ ~e & g) + ROUND_512[i] + w[i];
                long s0 = (a >>> 28 | a << 36) ^ (a >>> 34 | a << 30) ^ (a >>> 39 | a << 25);
                long second = s0 + (a & b ^ a & c ^ b & c);
                h = g;
                g = f;
                f = e;
                e = d + first;
                d = c;
                c = b;
                b = a;
                a = first + second;
            }
            wideState[0] += a;
            wideState[1] += b;
            wideState[2] += c;
            wideState[3] += d;
            wideState[4] += e;
            wideState[5] += f;
            wideState[6] += g;
            wideState[7] += h;
        }

        void startCode(int bits, Bytes key, int from, int stop) {
            start(bits);
            inner.clear();
            boolean hashed = stop - from > blockBytes;
            if (hashed) {
                add(key, from, stop);
                finish(inner);
                start(bits);
            }
            for (int i = 0; i < 128; i++) {
                keyBlock[i] = hashed ? inner.get(i) : from + i < stop ? key.get(from + i) : 0;
            }
            addKeyBlock(0x36);
        }

        void finishCode(Bytes to) {
            inner.clear();
            finish(inner);
            start(wide ? 512 : 256);
            addKeyBlock(0x5c);
            add(inner, 0, inner.many);
            finish(to);
        }

        private void addKeyBlock(int pad) {
            for (int i = 0; i < blockBytes; i++) {
                addByte(keyBlock[i] ^ pad);
            }
        }

        /** The secret may be the row that takes the derived bytes: they are gathered apart. */
        void putDerived(Bytes secret, Bytes label, Bytes u, Bytes v, int many, Bytes to) {
            inner.clear();
            for (int i = 1; i <= 2 && inner.many < many; i++) {
                start(256);
                addWord(i);
                add(secret, 0, secret.many);
                addWord(label.many);
                add(label, 0, label.many);
                addWord(u.many);
                add(u, 0, u.many);
                addWord(v.many);
                add(v, 0, v.many);
                addWord(8 * many);
                finish(inner);
            }
            inner.cutTo(many);
            to.become(inner);
        }
    }

    /** AES, and keys wrapped with it. */
    private static final class Cipher {
        static final int BLOCK = 16;
        private static final int[] SWAP = {
            0x63, 0x7c, 0x77, 0x7b, 0xf2, 0x6b, 0x6f, 0xc5, 0x30, 0x01, 0x67, 0x2b, 0xfe, 0xd7, 0xab, 0x76,
            0xca, 0x82, 0xc9, 0x7d, 0xfa, 0x59, 0x47, 0xf0, 0xad, 0xd4, 0xa2, 0xaf, 0x9c, 0xa4, 0x72, 0xc0,
            0xb7, 0xfd, 0x93, 0x26, 0x36, 0x3f, 0xf7, 0xcc, 0x34, 0xa5, 0xe5, 0xf1, 0x71, 0xd8, 0x31, 0x15,
            0x04, 0xc7, 0x23, 0xc3, 0x18, 0x96, 0x05, 0x9a, 0x07, 0x12, 0x80, 0xe2, 0xeb, 0x27, 0xb2, 0x75,
            0x09, 0x83, 0x2c, 0x1a, 0x1b, 0x6e, 0x5a, 0xa0, 0x52, 0x3b, 0xd6, 0xb3, 0x29, 0xe3, 0x2f, 0x84,
            0x53, 0xd1, 0x00, 0xed, 0x20, 0xfc, 0xb1, 0x5b, 0x6a, 0xcb, 0xbe, 0x39, 0x4a, 0x4c, 0x58, 0xcf,
            0xd0, 0xef, 0xaa, 0xfb, 0x43, 0x4d, 0x33, 0x85, 0x45, 0xf9, 0x02, 0x7f, 0x50, 0x3c, 0x9f, 0xa8,
            0x51, 0xa3, 0x40, 0x8f, 0x92, 0x9d, 0x38, 0xf5, 0xbc, 0xb6, 0xda, 0x21, 0x10, 0xff, 0xf3, 0xd2,
            0xcd, 0x0c, 0x13, 0xec, 0x5f, 0x97, 0x44, 0x17, 0xc4, 0xa7, 0x7e, 0x3d, 0x64, 0x5d, 0x19, 0x73,
            0x60, 0x81, 0x4f, 0xdc, 0x22, 0x2a, 0x90, 0x88, 0x46, 0xee, 0xb8, 0x14, 0xde, 0x5e, 0x0b, 0xdb,
            0xe0, 0x32, 0x3a, 0x0a, 0x49, 0x06, 0x24, 0x5c, 0xc2, 0xd3, 0xac, 0x62, 0x91, 0x95, 0xe4, 0x79,
            0xe7, 0xc8, 0x37, 0x6d, 0x8d, 0xd5, 0x4e, 0xa9, 0x6c, 0x56, 0xf4, 0xea, 0x65, 0x7a, 0xae, 0x08,
            0xba, 0x78, 0x25, 0x2e, 0x1c, 0xa6, 0xb4, 0xc6, 0xe8, 0xdd, 0x74, 0x1f, 0x4b, 0xbd, 0x8b, 0x8a,
            0x70, 0x3e, 0xb5, 0x66, 0x48, 0x03, 0xf6, 0x0e, 0x61, 0x35, 0x57, 0xb9, 0x86, 0xc1, 0x1d, 0x9e,
            0xe1, 0xf8, 0x98, 0x11, 0x69, 0xd9, 0x8e, 0x94, 0x9b, 0x1e, 0x87, 0xe9, 0xce, 0x55, 0x28, 0xdf,
            0x8c, 0xa1, 0x89, 0x0d, 0xbf, 0xe6, 0x42, 0x68, 0x41, 0x99, 0x2d, 0x0f, 0xb0, 0x54, 0xbb, 0x16
        };

        private final int[] swapBack = new int[256];
        private final int[] roundKeys = new int[240];
        private int rounds;
        private final int[] turned = new int[BLOCK];
        private final int[] block = new int[BLOCK];
        private final int[] wrapped = new int[72];

        Cipher() {
            for (int i = 0; i < 256; i++) {
                swapBack[SWAP[i] & 255] = i;
            }
        }

        /** A key of 16 or 32 bytes. */
        void become(Bytes key, int from, int many) {
            int keyWords = many == 32 ? 8 : 4;
            rounds = keyWords + 6;
            for (int i = 0; i < 4 * keyWords; i++) {
                roundKeys[i] = key.get(from + i);
            }
            int constant = 1;
            for (int i = keyWords; i < 4 * (rounds + 1); i++) {
                int last = 4 * i - 4;
                int a = roundKeys[last], b = roundKeys[last + 1], c = roundKeys[last + 2], d = roundKeys[last + 3];
                int inKey = i & keyWords - 1;
                if (inKey == 0) {
                    int front = a;
                    a = SWAP[b] ^ constant;
                    b = SWAP[c];
                    c = SWAP[d];
                    d = SWAP[front];
                    constant = twice(constant);
                } else if (keyWords == 8 && inKey == 4) {
                    a = SWAP[a];
                    b = SWAP[b];
                    c = SWAP[c];
                    d = SWAP[d];
                }
                int back = 4 * (i - keyWords);
                roundKeys[4 * i] = roundKeys[back] ^ a;
                roundKeys[4 * i + 1] = roundKeys[back + 1] ^ b;
                roundKeys[4 * i + 2] = roundKeys[back + 2] ^ c;
                roundKeys[4 * i + 3] = roundKeys[back + 3] ^ d;
            }
        }

        /** In the cipher's field of 256. */
        private static int twice(int x) {
            return x < 128 ? x << 1 : x << 1 ^ 0x11b;
        }

        private void addRoundKey(int[] b, int round) {
            for (int i = 0; i < BLOCK; i++) {
                b[i] ^= roundKeys[BLOCK * round + i];
            }
        }

        /** A block of 16 bytes in its place. */
        void forward(int[] b) {
            addRoundKey(b, 0);
            for (int round = 1; round <= rounds; round++) {
                for (int i = 0; i < BLOCK; i++) {
                    turned[i] = SWAP[b[i + 4 * (i & 3) & 15]];
                }
                System.arraycopy(turned, 0, b, 0, BLOCK);
                if (round < rounds) {
                    mixColumns(b);
                }
                addRoundKey(b, round);
            }
        }

        void backward(int[] b) {
            for (int round = rounds; round >= 1; round--) {
                addRoundKey(b, round);
                if (round < rounds) {
                    unmixColumns(b);
                }
                for (int i = 0; i < BLOCK; i++) {
                    turned[i + 4 * (i & 3) & 15] = swapBack[b[i]];
                }
                System.arraycopy(turned, 0, b, 0, BLOCK);
            }
            addRoundKey(b, 0);
        }

        private static void mixColumns(int[] b) {
            for (int i = 0; i < BLOCK; i += 4) {
                int front = b[i];
                int all = b[i] ^ b[i + 1] ^ b[i + 2] ^ b[i + 3];
                b[i] ^= all ^ twice(b[i] ^ b[i + 1]);
                b[i + 1] ^= all ^ twice(b[i + 1] ^ b[i + 2]);
                b[i + 2] ^= all ^ twice(b[i + 2] ^ b[i + 3]);
                b[i + 3] ^= all ^ twice(b[i + 3] ^ front);
            }
        }

        /** The inverse matrix is the forward one times one that only sees opposite bytes. */
        private static void unmixColumns(int[] b) {
            for (int i = 0; i < BLOCK; i += 4) {
                int even = twice(twice(b[i] ^ b[i + 2]));
                int odd = twice(twice(b[i + 1] ^ b[i + 3]));
                b[i] ^= even;
                b[i + 1] ^= odd;
                b[i + 2] ^= even;
                b[i + 3] ^= odd;
            }
            mixColumns(b);
        }

        void putBlock(Bytes from, boolean back, Bytes to) {
            for (int i = 0; i < BLOCK; i++) {
                block[i] = from.get(i);
            }
            if (back) {
                backward(block);
            } else {
                forward(block);
            }
            for (int i = 0; i < BLOCK; i++) {
                to.put(block[i]);
            }
        }

        static boolean mayWrap(int many) {
            return many >= 16 && many <= 64 && (many & 7) == 0;
        }

        void putWrapped(Bytes key, Bytes from, Bytes to) {
            if (!mayWrap(from.many)) {
                return;
            }
            become(key, 0, key.many);
            int parts = from.many / 8;
            for (int i = 0; i < from.many; i++) {
                wrapped[8 + i] = from.get(i);
            }
            for (int i = 0; i < 8; i++) {
                block[i] = 0xa6;
            }
            for (int turn = 0; turn < 6 * parts; turn++) {
                int part = 8 + 8 * (turn % Math.max(parts, 1));
                System.arraycopy(wrapped, part, block, 8, 8);
                forward(block);
                block[7] ^= turn + 1;
                System.arraycopy(block, 8, wrapped, part, 8);
            }
            System.arraycopy(block, 0, wrapped, 0, 8);
            to.clear();
            for (int i = 0; i < from.many + 8; i++) {
                to.put(wrapped[i]);
            }
        }

        /** False, and nothing comes: these bytes were not wrapped with this key. */
        boolean putUnwrapped(Bytes key, Bytes from, Bytes to) {
            int many = from.many - 8;
            if (!mayWrap(many)) {
                return false;
            }
            become(key, 0, key.many);
            int parts = many / 8;
            for (int i = 0; i < from.many; i++) {
                wrapped[i] = from.get(i);
            }
            System.arraycopy(wrapped, 0, block, 0, 8);
            for (int turn = 6 * parts - 1; turn >= 0; turn--) {
                int part = 8 + 8 * (turn % Math.max(parts, 1));
                block[7] ^= turn + 1;
                System.arraycopy(wrapped, part, block, 8, 8);
                backward(block);
                System.arraycopy(block, 8, wrapped, part, 8);
            }
            for (int i = 0; i < 8; i++) {
                if (block[i] != 0xa6) {
                    return false;
                }
            }
            to.clear();
            for (int i = 0; i < many; i++) {
                to.put(wrapped[8 + i]);
            }
            return true;
        }
    }

    /** Content sealed in the four ways. */
    private static final class Content {
        private final Digest digest;
        private final Cipher cipher;
        private final int[] block = new int[Cipher.BLOCK];
        private final int[] chain = new int[Cipher.BLOCK];
        private final Bytes mark = new Bytes(64);
        private long factorHigh;
        private long factorLow;
        private long sumHigh;
        private long sumLow;

        Content(Digest itsDigest, Cipher itsCipher) {
            digest = itsDigest;
            cipher = itsCipher;
        }

        /** Without the mark. */
        static int sealedBytes(int way, int many) {
            return way < FIRST_GCM_WAY ? (many / Cipher.BLOCK + 1) * Cipher.BLOCK : many;
        }

        void lock(int way, Bytes key, Bytes first, Bytes also, Bytes from, Bytes to) {
            to.clear();
            if (way < FIRST_GCM_WAY) {
                putChained(key, first, from, to);
                markByCode(way, key, first, also, to, to.many);
            } else {
                putCounted(key, first, from, from.many, to);
                markByField(first, also, to, to.many);
            }
            to.putAll(mark);
        }

        /** False: it is not opened, and what stands in to means nothing. */
        boolean unlock(int way, Bytes key, Bytes first, Bytes also, Bytes from, Bytes to) {
            int many = from.many - WAY_MARK[way];
            if (many < 0 || key.many != WAY_KEY[way]) {
                return false;
            }
            to.clear();
            if (way < FIRST_GCM_WAY) {
                if (many == 0 || many % Cipher.BLOCK != 0) {
                    return false;
                }
                markByCode(way, key, first, also, from, many);
                return markStands(from, many) && putUnchained(key, first, from, many, to);
            }
            putCounted(key, first, from, many, to);
            markByField(first, also, from, many);
            return markStands(from, many);
        }

        private boolean markStands(Bytes from, int at) {
            return Bytes.compare(mark, 0, from, at, mark.many) == 0;
        }

        private void putChained(Bytes key, Bytes first, Bytes from, Bytes to) {
            cipher.become(key, key.many / 2, key.many / 2);
            int sealedMany = sealedBytes(0, from.many);
            int fill = sealedMany - from.many;
            for (int i = 0; i < Cipher.BLOCK; i++) {
                block[i] = first.get(i);
            }
            for (int at = 0; at < sealedMany; at += Cipher.BLOCK) {
                for (int i = 0; i < Cipher.BLOCK; i++) {
                    block[i] ^= at + i < from.many ? from.get(at + i) : fill;
                }
                cipher.forward(block);
                for (int i = 0; i < Cipher.BLOCK; i++) {
                    to.put(block[i]);
                }
            }
        }

        /** False: what fills it is wrong. */
        private boolean putUnchained(Bytes key, Bytes first, Bytes from, int many, Bytes to) {
            cipher.become(key, key.many / 2, key.many / 2);
            for (int at = 0; at < many; at += Cipher.BLOCK) {
                for (int i = 0; i < Cipher.BLOCK; i++) {
                    block[i] = from.get(at + i);
                    chain[i] = at == 0 ? first.get(i) : from.get(at - Cipher.BLOCK + i);
                }
                cipher.backward(block);
                for (int i = 0; i < Cipher.BLOCK; i++) {
                    to.put(block[i] ^ chain[i]);
                }
            }
            int fill = to.get(many - 1);
            if (fill < 1 || fill > Cipher.BLOCK) {
                return false;
            }
            for (int i = many - fill; i < many; i++) {
                if (to.get(i) != fill) {
                    return false;
                }
            }
            to.cutTo(many - fill);
            return true;
        }

        private void markByCode(int way, Bytes key, Bytes first, Bytes also, Bytes from, int many) {
            digest.startCode(way == 0 ? 256 : 512, key, 0, key.many / 2);
            digest.add(also, 0, also.many);
            digest.add(first, 0, first.many);
            digest.add(from, 0, many);
            digest.addWord(0);
            digest.addWord(also.many * 8);
            mark.clear();
            digest.finishCode(mark);
            mark.cutTo(WAY_MARK[way]);
        }

        private void startCounter(Bytes first, int count) {
            for (int i = 0; i < 12; i++) {
                block[i] = first.get(i);
            }
            block[12] = count >>> 24;
            block[13] = count >>> 16 & 255;
            block[14] = count >>> 8 & 255;
            block[15] = count & 255;
        }

        /** To and fro alike. */
        private void putCounted(Bytes key, Bytes first, Bytes from, int many, Bytes to) {
            cipher.become(key, 0, key.many);
            for (int at = 0; at < many; at += Cipher.BLOCK) {
                startCounter(first, at / Cipher.BLOCK + 2);
                cipher.forward(block);
                for (int i = 0; i < Cipher.BLOCK && at + i < many; i++) {
                    to.put(block[i] ^ from.get(at + i));
                }
            }
        }

        /** The cipher has its key already. */
        private void markByField(Bytes first, Bytes also, Bytes from, int many) {
            for (int i = 0; i < Cipher.BLOCK; i++) {
                block[i] = 0;
            }
            cipher.forward(block);
            factorHigh = half(0);
            factorLow = half(8);
            sumHigh = 0;
            sumLow = 0;
            addToSum(also, also.many);
            addToSum(from, many);
            timesFactor(also.many * 8L, many * 8L);
            startCounter(first, 1);
            cipher.forward(block);
            mark.clear();
            putMarkHalf(sumHigh ^ half(0));
            putMarkHalf(sumLow ^ half(8));
        }

        private void putMarkHalf(long x) {
            mark.putWord((int) (x >>> 32));
            mark.putWord((int) x);
        }

        private long half(int from) {
            long x = 0;
            for (int i = from; i < from + 8 && i < Cipher.BLOCK; i++) {
                x = x << 8 | block[i];
            }
            return x;
        }

        private void addToSum(Bytes from, int many) {
            for (int at = 0; at < many; at += Cipher.BLOCK) {
                for (int i = 0; i < Cipher.BLOCK; i++) {
                    block[i] = at + i < many ? from.get(at + i) : 0;
                }
                timesFactor(half(0), half(8));
            }
        }

        /** The sum and 16 bytes more, times the factor, in the field of SP 800-38D. */
        private void timesFactor(long high, long low) {
            long xHigh = sumHigh ^ high;
            long xLow = sumLow ^ low;
            long vHigh = factorHigh;
            long vLow = factorLow;
            sumHigh = 0;
            sumLow = 0;
            for (int i = 0; i < 128; i++) {
                if (xHigh < 0) {
                    sumHigh ^= vHigh;
                    sumLow ^= vLow;
                }
                xHigh = xHigh << 1 | xLow >>> 63;
                xLow <<= 1;
                boolean odd = (vLow & 1) != 0;
                vLow = vLow >>> 1 | vHigh << 63;
                vHigh = vHigh >>> 1 ^ (odd ? 0xe1L << 56 : 0);
            }
        }
    }

    /** Numbers below an odd one above 1, as limbs of 32 bits, the lowest first; products are Montgomery's. */
    private static final class Modulus {
        static final int MOST_BYTES = 128;
        private static final int MOST_LIMBS = 32;
        private static final long LIMB = 0xffffffffL;

        private int limbs = 1;
        /** What makes the lowest limb of a sum 0. */
        private long twist;
        private final long[] modulus = new long[MOST_LIMBS];
        private final long[] one = new long[MOST_LIMBS];
        /** 2 to the power of all bits, twice over: a product with it leads into Montgomery's form. */
        private final long[] leader = new long[MOST_LIMBS];
        private final long[] raised = new long[MOST_LIMBS];
        private final long[] factor = new long[MOST_LIMBS];
        private final long[] sum = new long[MOST_LIMBS + 2];

        static boolean suits(Bytes m) {
            return m.many >= 1 && m.many <= MOST_BYTES && m.get(0) != 0
                && (m.get(m.many - 1) & 1) == 1 && (m.many > 1 || m.get(0) > 1);
        }

        /** It suits. */
        void become(Bytes m) {
            limbs = Math.max(1, Math.min((m.many + 3) / 4, MOST_LIMBS));
            for (int i = 0; i < limbs; i++) {
                modulus[i] = 0;
                one[i] = i == 0 ? 1 : 0;
                leader[i] = one[i];
            }
            loadLimbs(m, 0, m.many, modulus);
            long inverse = 1;
            for (int i = 0; i < 6; i++) {
                inverse *= 2 - modulus[0] * inverse;
            }
            twist = -inverse & LIMB;
            // 33 doublings a limb make 2 to the power limbs, led; squaring that 5 times makes its power limbs * 32, led.
            for (int i = 0; i < 33 * limbs; i++) {
                plus(leader, leader, leader);
            }
            for (int i = 0; i < 5; i++) {
                times(leader, leader, leader);
            }
        }

        private void loadLimbs(Bytes from, int start, int many, long[] to) {
            for (int i = 0; i < limbs; i++) {
                to[i] = 0;
            }
            for (int i = 0; i < many && i < 4 * limbs; i++) {
                to[i / 4] |= (long) from.get(start + many - 1 - i) << 8 * (i & 3);
            }
        }

        /** A number of any size, modulo this one: by pieces, as a piece need not be below the modulus to be led. */
        void take(Bytes from, int start, int many, long[] to) {
            int piece = 4 * limbs;
            int pieces = (many + piece - 1) / piece;
            loadLimbs(from, start, 0, to);
            for (int i = pieces; i > 0; i--) {
                int pieceStart = Math.max(many - i * piece, 0);
                int pieceStop = many - (i - 1) * piece;
                loadLimbs(from, start + pieceStart, pieceStop - pieceStart, factor);
                times(factor, leader, factor);
                times(factor, one, factor);
                times(to, leader, to);
                plus(to, factor, to);
            }
        }

        void give(long[] from, int many, Bytes to) {
            for (int i = many - 1; i >= 0; i--) {
                to.put(i / 4 < limbs ? (int) (from[i / 4] >>> 8 * (i & 3)) : 0);
            }
        }

        boolean isZero(long[] x) {
            for (int i = 0; i < limbs; i++) {
                if (x[i] != 0) {
                    return false;
                }
            }
            return true;
        }

        boolean areSame(long[] x, long[] y) {
            for (int i = 0; i < limbs; i++) {
                if (x[i] != y[i]) {
                    return false;
                }
            }
            return true;
        }

        void plus(long[] x, long[] y, long[] to) {
            long carry = 0;
            for (int i = 0; i < limbs; i++) {
                carry += x[i] + y[i];
                sum[i] = carry & LIMB;
                carry >>>= 32;
            }
            sum[limbs] = carry;
            settle(to);
        }

        void minus(long[] x, long[] y, long[] to) {
            long carry = 0;
            for (int i = 0; i < limbs; i++) {
                carry += x[i] - y[i];
                to[i] = carry & LIMB;
                carry >>= 32;
            }
            if (carry < 0) {
                carry = 0;
                for (int i = 0; i < limbs; i++) {
                    carry += to[i] + modulus[i];
                    to[i] = carry & LIMB;
                    carry >>>= 32;
                }
            }
        }

        /** The sum is below twice the modulus: taking that away once is enough. */
        private void settle(long[] to) {
            long carry = 0;
            for (int i = 0; i < limbs; i++) {
                carry += sum[i] - modulus[i];
                to[i] = carry & LIMB;
                carry >>= 32;
            }
            if (carry + sum[limbs] < 0) {
                System.arraycopy(sum, 0, to, 0, limbs);
            }
        }

        /** x y, by 2 to the power of all bits; the row may be one of the factors. */
        void times(long[] x, long[] y, long[] to) {
            for (int i = 0; i <= limbs; i++) {
                sum[i] = 0;
            }
            for (int i = 0; i < limbs; i++) {
                long digit = x[i];
                long carry = 0;
                for (int j = 0; j < limbs; j++) {
                    carry += digit * y[j] + sum[j];
                    sum[j] = carry & LIMB;
                    carry >>>= 32;
                }
                long top = sum[limbs] + carry;
                digit = sum[0] * twist & LIMB;
                carry = digit * modulus[0] + sum[0] >>> 32;
                for (int j = 1; j < limbs; j++) {
                    carry += digit * modulus[j] + sum[j];
                    sum[j - 1] = carry & LIMB;
                    carry >>>= 32;
                }
                top += carry;
                sum[limbs - 1] = top & LIMB;
                sum[limbs] = top >>> 32;
            }
            settle(to);
        }

        void lead(long[] x) {
            times(x, leader, x);
        }

        void leadBack(long[] x) {
            times(x, one, x);
        }

        /** x to the power of many bytes, neither in Montgomery's form. */
        void raise(long[] x, Bytes exponent, long[] to) {
            times(x, leader, factor);
            times(one, leader, raised);
            boolean begun = false;
            for (int i = 0; i < 8 * exponent.many; i++) {
                if (begun) {
                    times(raised, raised, raised);
                }
                if ((exponent.get(i / 8) >> 7 - (i & 7) & 1) == 1) {
                    times(raised, factor, raised);
                    begun = true;
                }
            }
            times(raised, one, to);
        }
    }

    /** What is signed and sealed by powers modulo n. */
    private static final class Rsa {
        private static final int[] SHA_256_INFO = {
            0x30, 0x31, 0x30, 0x0d, 0x06, 0x09, 0x60, 0x86, 0x48, 0x01, 0x65, 0x03, 0x04, 0x02, 0x01, 0x05, 0x00, 0x04, 0x20
        };
        private static final int HASH = 32;

        private final Digest digest;
        private final Modulus modulus = new Modulus();
        private final long[] number = new long[Modulus.MOST_BYTES / 4];
        private final Bytes frame = new Bytes(Modulus.MOST_BYTES);
        private final Bytes other = new Bytes(Modulus.MOST_BYTES);
        private final Bytes mask = new Bytes(HASH);

        Rsa(Digest itsDigest) {
            digest = itsDigest;
        }

        void raise(Bytes base, Bytes exponent, Bytes n, Bytes to) {
            modulus.become(n);
            modulus.take(base, 0, base.many, number);
            modulus.raise(number, exponent, number);
            to.clear();
            modulus.give(number, n.many, to);
        }

        /** Whether 2 to the power e d is 2. */
        boolean isPair(Bytes n, Bytes e, Bytes d) {
            frame.clear();
            frame.put(2);
            raise(frame, e, n, other);
            raise(other, d, n, frame);
            for (int i = 0; i < n.many - 1; i++) {
                if (frame.get(i) != 0) {
                    return false;
                }
            }
            return frame.get(n.many - 1) == 2;
        }

        private void framePkcs(Bytes hash, int many) {
            frame.clear();
            frame.put(0);
            frame.put(1);
            frame.putSame(255, many - 3 - SHA_256_INFO.length - HASH);
            frame.put(0);
            for (int i = 0; i < SHA_256_INFO.length; i++) {
                frame.put(SHA_256_INFO[i]);
            }
            frame.putAll(hash);
        }

        void signPkcs(Bytes hash, Bytes d, Bytes n, Bytes to) {
            framePkcs(hash, n.many);
            raise(frame, d, n, to);
        }

        /** A signature that is no number below n is none. */
        private boolean isNumberOf(Bytes x, Bytes n) {
            return x.many == n.many && Bytes.compare(x, 0, n, 0, n.many) < 0;
        }

        boolean isPkcsRight(Bytes hash, Bytes signature, Bytes e, Bytes n) {
            if (!isNumberOf(signature, n)) {
                return false;
            }
            framePkcs(hash, n.many);
            raise(signature, e, n, other);
            return frame.same(other);
        }

        private static int bitsOf(Bytes n) {
            int bits = 8 * n.many;
            for (int bit = 128; bit > 0 && (n.get(0) & bit) == 0; bit >>= 1) {
                bits--;
            }
            return bits;
        }

        /** The bytes of the frame from at on are masked by many bytes of it from seed on. */
        private void maskFrame(int seed, int seedMany, int at, int many) {
            for (int i = 0; i < many; i += HASH) {
                digest.start(256);
                digest.add(frame, seed, seed + seedMany);
                digest.addWord(i / HASH);
                mask.clear();
                digest.finish(mask);
                for (int j = 0; j < HASH && i + j < many; j++) {
                    frame.set(at + i + j, frame.get(at + i + j) ^ mask.get(j));
                }
            }
        }

        /** The digest of 8 zeros, the message's digest and the salt. */
        private void hashSalted(Bytes hash, Bytes salt, int at, Bytes to) {
            digest.start(256);
            digest.addWord(0);
            digest.addWord(0);
            digest.add(hash, 0, hash.many);
            digest.add(salt, at, at + HASH);
            digest.finish(to);
        }

        /** False: there are not enough bytes for the salt. */
        boolean signPss(Bytes hash, Bytes salt, Bytes d, Bytes n, Bytes to) {
            if (salt.many < HASH) {
                return false;
            }
            int bits = bitsOf(n) - 1;
            int many = (bits + 7) / 8;
            int hashAt = many - HASH - 1;
            frame.clear();
            frame.putSame(0, hashAt - HASH - 1);
            frame.put(1);
            frame.putPart(salt, 0, HASH);
            hashSalted(hash, salt, 0, frame);
            frame.put(0xbc);
            maskFrame(hashAt, HASH, 0, hashAt);
            frame.set(0, frame.get(0) & (255 >> (8 * many - bits)));
            raise(frame, d, n, to);
            return true;
        }

        boolean isPssRight(Bytes hash, Bytes signature, Bytes e, Bytes n) {
            if (!isNumberOf(signature, n)) {
                return false;
            }
            raise(signature, e, n, other);
            int bits = bitsOf(n) - 1;
            int many = (bits + 7) / 8;
            int unused = other.many - many;
            if (unused > 0 && other.get(0) != 0) {
                return false;
            }
            frame.clear();
            frame.putPart(other, unused, many);
            int first = 255 >> (8 * many - bits);
            if (frame.get(many - 1) != 0xbc || (frame.get(0) & ~first) != 0) {
                return false;
            }
            int hashAt = many - HASH - 1;
            maskFrame(hashAt, HASH, 0, hashAt);
            frame.set(0, frame.get(0) & first);
            int oneAt = hashAt - HASH - 1;
            for (int i = 0; i < oneAt; i++) {
                if (frame.get(i) != 0) {
                    return false;
                }
            }
            other.clear();
            hashSalted(hash, frame, oneAt + 1, other);
            return frame.get(oneAt) == 1 && Bytes.compare(other, 0, frame, hashAt, HASH) == 0;
        }

        private void putEmptyHash(Bytes to) {
            digest.start(256);
            digest.finish(to);
        }

        /** There is room for the message: who may be used was asked. */
        void sealOaep(Bytes message, Bytes seed, Bytes e, Bytes n, Bytes to) {
            frame.clear();
            frame.put(0);
            frame.putPart(seed, 0, HASH);
            putEmptyHash(frame);
            frame.putSame(0, n.many - message.many - 2 * HASH - 2);
            frame.put(1);
            frame.putAll(message);
            maskFrame(1, HASH, 1 + HASH, n.many - 1 - HASH);
            maskFrame(1 + HASH, n.many - 1 - HASH, 1, HASH);
            raise(frame, e, n, to);
        }

        boolean openOaep(Bytes from, Bytes d, Bytes n, Bytes to) {
            if (!isNumberOf(from, n)) {
                return false;
            }
            raise(from, d, n, frame);
            maskFrame(1 + HASH, n.many - 1 - HASH, 1, HASH);
            maskFrame(1, HASH, 1 + HASH, n.many - 1 - HASH);
            other.clear();
            putEmptyHash(other);
            if (frame.get(0) != 0 || Bytes.compare(other, 0, frame, 1 + HASH, HASH) != 0) {
                return false;
            }
            int at = 1 + 2 * HASH;
            for (int i = at; i < n.many && frame.get(i) == 0; i++) {
                at++;
            }
            if (frame.get(at) != 1) {
                return false;
            }
            to.clear();
            to.putPart(frame, at + 1, n.many - at - 1);
            return true;
        }
    }

    /** P-256: points as x, y in Montgomery's form; sums as x, y, z, where x / z z and y / z z z are meant. */
    private static final class Curve {
        static final int BYTES = 32;
        private static final int LIMBS = 8;
        private static final String FIELD = "ffffffff00000001000000000000000000000000ffffffffffffffffffffffff";
        private static final String FIELD_LESS_2 = "ffffffff00000001000000000000000000000000fffffffffffffffffffffffd";
        private static final String ORDER = "ffffffff00000000ffffffffffffffffbce6faada7179e84f3b9cac2fc632551";
        private static final String ORDER_LESS_2 = "ffffffff00000000ffffffffffffffffbce6faada7179e84f3b9cac2fc63254f";
        private static final String B = "5ac635d8aa3a93e7b3ebbd55769886bc651d06b0cc53b0f63bce3c3e27d2604b";
        private static final String BASE_X = "6b17d1f2e12c4247f8bce6e563a440f277037d812deb33a0f4a13945d898c296";
        private static final String BASE_Y = "4fe342e2fe1a7f9b8ee7eb4a7c0f9e162bce33576b315ececbb6406837bf51f5";

        final long[][] base = new long[2][LIMBS];
        /** The point that was loaded. */
        final long[][] other = new long[2][LIMBS];
        private final Modulus field = new Modulus();
        private final Modulus order = new Modulus();
        private final Bytes fieldBytes = ofDigits(FIELD);
        private final Bytes fieldInverter = ofDigits(FIELD_LESS_2);
        private final Bytes orderBytes = ofDigits(ORDER);
        private final Bytes orderInverter = ofDigits(ORDER_LESS_2);
        private final long[] b = new long[LIMBS];
        private final long[] unit = new long[LIMBS];
        private final long[][] sum = new long[3][LIMBS];
        private final long[][] t = new long[6][LIMBS];
        private final Bytes point = new Bytes(2 * BYTES);
        private final Bytes hashShare = new Bytes(BYTES);
        private final Bytes pointShare = new Bytes(BYTES);
        private final Bytes nothing = new Bytes(0);

        Curve() {
            field.become(fieldBytes);
            order.become(orderBytes);
            field.take(ofDigits(B), 0, BYTES, b);
            field.take(ofDigits(BASE_X), 0, BYTES, base[0]);
            field.take(ofDigits(BASE_Y), 0, BYTES, base[1]);
            unit[0] = 1;
            field.lead(unit);
            field.lead(b);
            field.lead(base[0]);
            field.lead(base[1]);
        }

        private static Bytes ofDigits(String digits) {
            Bytes bytes = new Bytes(BYTES);
            for (int i = 0; i + 1 < digits.length(); i += 2) {
                bytes.put(Reader.hexValue(digits.charAt(i)) << 4 | Reader.hexValue(digits.charAt(i + 1)));
            }
            return bytes;
        }

        /** 1 .. the order less 1. */
        boolean isSecret(Bytes d, int at) {
            return Bytes.compare(d, at, orderBytes, 0, BYTES) < 0 && Bytes.compare(d, at, nothing, 0, BYTES) > 0;
        }

        /** x and y become the other point; false: they are not on the curve. */
        boolean load(Bytes xy) {
            if (Bytes.compare(xy, 0, fieldBytes, 0, BYTES) >= 0 || Bytes.compare(xy, BYTES, fieldBytes, 0, BYTES) >= 0) {
                return false;
            }
            long[] x = other[0];
            long[] y = other[1];
            field.take(xy, 0, BYTES, x);
            field.take(xy, BYTES, BYTES, y);
            field.lead(x);
            field.lead(y);
            field.times(x, x, t[0]);
            field.times(t[0], x, t[0]);
            field.minus(t[0], x, t[0]);
            field.minus(t[0], x, t[0]);
            field.minus(t[0], x, t[0]);
            field.plus(t[0], b, t[0]);
            field.times(y, y, t[1]);
            return field.areSame(t[0], t[1]);
        }

        boolean isPair(Bytes d, Bytes xy) {
            if (!isSecret(d, 0)) {
                return false;
            }
            sumUp(d, base, nothing, base);
            return putSum(point) && point.same(xy);
        }

        /** The sum becomes m p and n q; a number without bytes is 0. */
        void sumUp(Bytes m, long[][] p, Bytes n, long[][] q) {
            for (int i = 0; i < LIMBS; i++) {
                sum[2][i] = 0;
            }
            for (int i = 0; i < 8 * BYTES; i++) {
                twice();
                int shift = 7 - (i & 7);
                if ((m.get(i / 8) >> shift & 1) == 1 && !add(p)) {
                    twice();
                }
                if ((n.get(i / 8) >> shift & 1) == 1 && !add(q)) {
                    twice();
                }
            }
        }

        /** Also of no point: z stays 0. */
        private void twice() {
            long[] x = sum[0], y = sum[1], z = sum[2];
            field.times(z, z, t[0]);
            field.times(y, y, t[1]);
            field.times(x, t[1], t[2]);
            field.minus(x, t[0], t[3]);
            field.plus(x, t[0], t[4]);
            field.times(t[3], t[4], t[3]);
            field.plus(t[3], t[3], t[4]);
            field.plus(t[4], t[3], t[3]);
            field.plus(y, z, z);
            field.times(z, z, z);
            field.minus(z, t[1], z);
            field.minus(z, t[0], z);
            field.plus(t[2], t[2], t[2]);
            field.plus(t[2], t[2], t[2]);
            field.times(t[3], t[3], x);
            field.minus(x, t[2], x);
            field.minus(x, t[2], x);
            field.times(t[1], t[1], t[1]);
            field.plus(t[1], t[1], t[1]);
            field.plus(t[1], t[1], t[1]);
            field.plus(t[1], t[1], t[1]);
            field.minus(t[2], x, t[2]);
            field.times(t[3], t[2], y);
            field.minus(y, t[1], y);
        }

        /** False: the sum is this very point, and stays; the caller must double it. */
        private boolean add(long[][] p) {
            long[] x = sum[0], y = sum[1], z = sum[2];
            if (field.isZero(z)) {
                System.arraycopy(p[0], 0, x, 0, LIMBS);
                System.arraycopy(p[1], 0, y, 0, LIMBS);
                System.arraycopy(unit, 0, z, 0, LIMBS);
                return true;
            }
            field.times(z, z, t[0]);
            field.times(p[0], t[0], t[1]);
            field.minus(t[1], x, t[1]);
            field.times(t[0], z, t[0]);
            field.times(p[1], t[0], t[2]);
            field.minus(t[2], y, t[2]);
            if (field.isZero(t[1]) && field.isZero(t[2])) {
                return false;
            }
            field.times(z, t[1], z);
            field.times(t[1], t[1], t[3]);
            field.times(t[1], t[3], t[4]);
            field.times(x, t[3], t[3]);
            field.times(t[2], t[2], x);
            field.minus(x, t[4], x);
            field.minus(x, t[3], x);
            field.minus(x, t[3], x);
            field.minus(t[3], x, t[3]);
            field.times(t[2], t[3], t[3]);
            field.times(y, t[4], t[4]);
            field.minus(t[3], t[4], y);
            return true;
        }

        /** x and y; false, and nothing comes: the sum is no point. */
        boolean putSum(Bytes to) {
            if (field.isZero(sum[2])) {
                return false;
            }
            field.leadBack(sum[2]);
            field.raise(sum[2], fieldInverter, t[0]);
            field.lead(t[0]);
            field.times(t[0], t[0], t[1]);
            field.times(t[1], t[0], t[2]);
            field.times(sum[0], t[1], t[1]);
            field.times(sum[1], t[2], t[2]);
            field.leadBack(t[1]);
            field.leadBack(t[2]);
            to.clear();
            field.give(t[1], BYTES, to);
            field.give(t[2], BYTES, to);
            return true;
        }

        /** r and s; false: k is not as it must be, or one of these is 0. */
        boolean putSignature(Bytes hash, Bytes d, Bytes k, Bytes to) {
            if (k.many < BYTES || !isSecret(k, 0)) {
                return false;
            }
            pointShare.clear();
            pointShare.putPart(k, 0, BYTES);
            sumUp(pointShare, base, nothing, base);
            putSum(point);
            long[] r = t[0], s = t[1], factor = t[2];
            order.take(point, 0, BYTES, r);
            order.take(d, 0, BYTES, factor);
            order.lead(factor);
            order.times(r, factor, s);
            order.take(hash, 0, BYTES, factor);
            order.plus(s, factor, s);
            order.take(k, 0, BYTES, factor);
            order.raise(factor, orderInverter, factor);
            order.lead(factor);
            order.times(s, factor, s);
            if (order.isZero(r) || order.isZero(s)) {
                return false;
            }
            to.clear();
            order.give(r, BYTES, to);
            order.give(s, BYTES, to);
            return true;
        }

        boolean isSignatureRight(Bytes hash, Bytes signature, Bytes itsPoint) {
            if (signature.many != 2 * BYTES || !isSecret(signature, 0) || !isSecret(signature, BYTES) || !load(itsPoint)) {
                return false;
            }
            long[] inverse = t[0], share = t[1];
            order.take(signature, BYTES, BYTES, inverse);
            order.raise(inverse, orderInverter, inverse);
            order.lead(inverse);
            order.take(hash, 0, BYTES, share);
            order.times(share, inverse, share);
            hashShare.clear();
            order.give(share, BYTES, hashShare);
            order.take(signature, 0, BYTES, share);
            order.times(share, inverse, share);
            pointShare.clear();
            order.give(share, BYTES, pointShare);
            sumUp(hashShare, base, pointShare, other);
            if (!putSum(point)) {
                return false;
            }
            order.take(point, 0, BYTES, t[0]);
            order.take(signature, 0, BYTES, t[1]);
            return order.areSame(t[0], t[1]);
        }
    }

    /** A key, or the room for one. */
    private static final class Key {
        boolean there;
        int kind;
        /** 0 not there, 1 sig, 2 enc, 3 another. */
        int use;
        /** NONE not there, else its place among all names of algs, or beyond them. */
        int alg = NONE;
        boolean kidThere;
        boolean secretThere;
        /** k, or n, or x and y. */
        final Bytes main = new Bytes(Modulus.MOST_BYTES);
        final Bytes exponent = new Bytes(Modulus.MOST_BYTES);
        final Bytes secret = new Bytes(Modulus.MOST_BYTES);
        /** Few keys have a long kid: its room is doubled when one comes, and kept. */
        Bytes kid = new Bytes(64);

        /** It becomes what the text tells, but whether its numbers belong together is not asked; else the reason (2 .. 6). */
        int reasonAgainst(Text t) {
            if (!t.isKind(0, OBJECT)) {
                return 2;
            }
            int kty = t.find(0, "kty");
            kind = t.says(kty, "oct") ? OCT : t.says(kty, "RSA") ? RSA : t.says(kty, "EC") ? EC : NONE;
            if (kind == NONE) {
                return 3;
            }
            if (!t.isStringOrNone(t.find(0, "kid")) || !t.isStringOrNone(t.find(0, "use")) || !t.isStringOrNone(t.find(0, "alg"))) {
                return 4;
            }
            secretThere = kind != OCT && t.find(0, "d") != NONE;
            if (!areLettersThere(t)) {
                return 5;
            }
            main.clear();
            exponent.clear();
            secret.clear();
            boolean right = kind == OCT ? t.putLettered(t.find(0, "k"), 1, Modulus.MOST_BYTES, main)
                : kind == RSA ? takeRsa(t) : takePoint(t, 0, main) && takeCurveSecret(t);
            if (!right) {
                return 6;
            }
            takeUse(t);
            return 0;
        }

        private boolean areLettersThere(Text t) {
            if (kind == OCT) {
                return t.areLetters(t.find(0, "k"));
            }
            boolean there = kind == RSA ? t.areLetters(t.find(0, "n")) && t.areLetters(t.find(0, "e")) : isPointThere(t, 0);
            return there && (!secretThere || t.areLetters(t.find(0, "d")));
        }

        static boolean isPointThere(Text t, int object) {
            return t.says(t.find(object, "crv"), "P-256") && t.areLetters(t.find(object, "x")) && t.areLetters(t.find(object, "y"));
        }

        static boolean takePoint(Text t, int object, Bytes to) {
            return t.putLettered(t.find(object, "x"), Curve.BYTES, Curve.BYTES, to)
                && t.putLettered(t.find(object, "y"), Curve.BYTES, Curve.BYTES, to);
        }

        private boolean takeRsa(Text t) {
            if (!t.putLettered(t.find(0, "n"), 64, Modulus.MOST_BYTES, main) || !Modulus.suits(main)) {
                return false;
            }
            if (!t.putLettered(t.find(0, "e"), 1, Modulus.MOST_BYTES, exponent) || !Modulus.suits(exponent) || !Bytes.isBelow(exponent, main)) {
                return false;
            }
            return !secretThere || (t.putLettered(t.find(0, "d"), 1, Modulus.MOST_BYTES, secret)
                && secret.get(0) != 0 && Bytes.isBelow(secret, main));
        }

        private boolean takeCurveSecret(Text t) {
            return !secretThere || t.putLettered(t.find(0, "d"), Curve.BYTES, Curve.BYTES, secret);
        }

        private void takeUse(Text t) {
            int itsUse = t.find(0, "use");
            use = itsUse == NONE ? 0 : t.says(itsUse, "sig") ? 1 : t.says(itsUse, "enc") ? 2 : 3;
            int itsAlg = t.find(0, "alg");
            alg = itsAlg == NONE ? NONE : SIGNED_ALGS + SEALED_ALGS;
            for (int i = 0; i < SIGNED_ALGS + SEALED_ALGS; i++) {
                if (t.says(itsAlg, algName(i))) {
                    alg = i;
                }
            }
            int itsKid = t.find(0, "kid");
            kidThere = itsKid != NONE;
            kid.clear();
            if (kidThere) {
                makeKidRoom(t.saidMany[itsKid]);
                kid.putPart(t.pool, t.saidAt[itsKid], t.saidMany[itsKid]);
            }
        }

        private void makeKidRoom(int many) {
            int room = Math.max(kid.at.length, 64);
            while (room < many && room < MOST) {
                room *= 2;
            }
            if (room > kid.at.length) {
                kid = new Bytes(room);
            }
        }

        boolean maySign(int wanted, boolean withSecret) {
            int itsKind = wanted <= HS512 ? OCT : wanted <= PS256 ? RSA : EC;
            if (kind != itsKind || use > 1 || (alg != NONE && alg != wanted)) {
                return false;
            }
            int least = wanted == HS256 ? 32 : wanted == HS512 ? 64 : wanted == PS256 ? 67 : 0;
            return main.many >= least && (!withSecret || kind == OCT || secretThere);
        }

        boolean maySeal(int wanted, int way, boolean withSecret) {
            int itsKind = wanted <= A256KW ? OCT : wanted == OAEP ? RSA : EC;
            if (kind != itsKind || use == 1 || use == 3 || (alg != NONE && alg != SIGNED_ALGS + wanted)) {
                return false;
            }
            switch (wanted) {
                case DIR: return main.many == WAY_KEY[way];
                case A128KW: return main.many == 16;
                case A256KW: return main.many == 32;
                case OAEP: return main.many >= 66 + WAY_KEY[way] && (!withSecret || secretThere);
                default: return !withSecret || secretThere;
            }
        }

        /** The members that RFC 7638 asks for, by their names' order. */
        void putPrinted(Bytes to) {
            if (kind == OCT) {
                to.putText("{\"k\":\"");
                to.putLetters(main, 0, main.many);
                to.putText("\",\"kty\":\"oct\"}");
            } else if (kind == RSA) {
                to.putText("{\"e\":\"");
                to.putLetters(exponent, 0, exponent.many);
                to.putText("\",\"kty\":\"RSA\",\"n\":\"");
                to.putLetters(main, 0, main.many);
                to.putText("\"}");
            } else {
                to.putText("{\"crv\":\"P-256\",\"kty\":\"EC\"");
                putPointMembers(main, to);
                to.put('}');
            }
        }

        static void putPointMembers(Bytes xy, Bytes to) {
            to.putText(",\"x\":\"");
            to.putLetters(xy, 0, Curve.BYTES);
            to.putText("\",\"y\":\"");
            to.putLetters(xy, Curve.BYTES, 2 * Curve.BYTES);
            to.put('"');
        }
    }

    /** What is known of the token that is being made or taken apart. */
    private static final class Token {
        /** 8192 letters stand for a head of 6144 bytes, and letters in that for 4608. */
        private static final int PARTY_ROOM = 4608;

        final Bytes head = new Bytes(MOST);
        int alg;
        int way;
        /** The payload stands in the token as it is. */
        boolean asItIs;
        final Bytes u = new Bytes(PARTY_ROOM);
        final Bytes v = new Bytes(PARTY_ROOM);
        /** The fresh point, x and y. */
        final Bytes point = new Bytes(2 * Curve.BYTES);
        final Bytes fresh = new Bytes(Curve.BYTES);
        final Bytes seed = new Bytes(Rsa.HASH);
        final Bytes contentKey = new Bytes(64);
        final Bytes sealedKey = new Bytes(Modulus.MOST_BYTES);
        final Bytes first = new Bytes(16);
        final Bytes agreed = new Bytes(64);
        final Bytes label = new Bytes(16);
        private final int[] starts = new int[6];
        private int kid;

        /** False: it has not just so many parts. */
        boolean split(Bytes row, int parts) {
            int found = 1;
            starts[0] = 0;
            for (int i = 0; i < row.many; i++) {
                if (row.get(i) == '.') {
                    if (found < parts) {
                        starts[found] = i + 1;
                    }
                    found++;
                }
            }
            starts[parts] = row.many + 1;
            return found == parts;
        }

        int partStart(int p) {
            return starts[p];
        }

        int partEnd(int p) {
            return starts[p + 1] - 1;
        }

        boolean isFaulty(Bytes row, int p) {
            return Bytes.letterFault(row, partStart(p), partEnd(p)) != NONE;
        }

        int partBytes(int p) {
            return Bytes.bytesFor(partEnd(p) - partStart(p));
        }

        void readPart(Bytes row, int p, Bytes to) {
            to.clear();
            to.putUnlettered(row, partStart(p), partEnd(p));
        }

        /** Content and mark come into one row; false: a part has not as many bytes as it must. */
        boolean readSealedParts(Bytes row, Bytes sealedTo) {
            if (partBytes(1) > sealedKey.at.length || partBytes(2) != WAY_FIRST[way] || partBytes(4) != WAY_MARK[way]) {
                return false;
            }
            readPart(row, 1, sealedKey);
            readPart(row, 2, first);
            readPart(row, 3, sealedTo);
            sealedTo.putUnlettered(row, partStart(4), partEnd(4));
            return true;
        }

        boolean kidSuits(Text t, Key k) {
            return kid == NONE || (k.kidThere && t.saysSame(kid, k.kid));
        }

        private boolean isHeadSound(Text t, int crit) {
            kid = t.find(0, "kid");
            return t.isKind(0, OBJECT) && t.isKind(t.find(0, "alg"), STRING) && t.isStringOrNone(kid)
                && (crit == NONE || isCritSound(t, crit));
        }

        /** Strings, one at least, no two the same. */
        private boolean isCritSound(Text t, int crit) {
            if (!t.isKind(crit, ARRAY) || t.inside[crit] == 0) {
                return false;
            }
            for (int i = crit + 1; i < t.count; i++) {
                if (t.parent[i] == crit) {
                    if (t.kind[i] != STRING || isSaidBefore(t, crit, i)) {
                        return false;
                    }
                }
            }
            return true;
        }

        private boolean isSaidBefore(Text t, int crit, int i) {
            for (int j = crit + 1; j < i; j++) {
                if (t.parent[j] == crit && t.saidMany[j] == t.saidMany[i]
                    && Bytes.compare(t.pool, t.saidAt[j], t.pool, t.saidAt[i], t.saidMany[i]) == 0) {
                    return true;
                }
            }
            return false;
        }

        /** The first reason why a signed token's head is not right; 0. */
        int signedHeadReason(Text t) {
            int crit = t.find(0, "crit");
            if (!isHeadSound(t, crit)) {
                return HEAD;
            }
            int b64 = t.find(0, "b64");
            asItIs = crit != NONE && t.isKind(b64, FALSE);
            if (crit != NONE) {
                boolean known = t.inside[crit] == 1 && t.says(crit + 1, "b64");
                if (!known || (!t.isKind(b64, FALSE) && !t.isKind(b64, TRUE))) {
                    return NAMES;
                }
            }
            alg = listed(t, t.find(0, "alg"), 0, SIGNED_ALGS);
            return alg == NONE ? ALG : 0;
        }

        private static int listed(Text t, int i, int from, int many) {
            for (int a = 0; a < many; a++) {
                if (t.says(i, algName(from + a))) {
                    return a;
                }
            }
            return NONE;
        }

        private static int listedWay(Text t, int i) {
            for (int w = 0; w < WAYS; w++) {
                if (t.says(i, wayName(w))) {
                    return w;
                }
            }
            return NONE;
        }

        /** Likewise of a sealed token, but for whether the fresh point is on the curve. */
        int sealedHeadReason(Text t) {
            int crit = t.find(0, "crit");
            if (!isHeadSound(t, crit) || !t.isKind(t.find(0, "enc"), STRING) || t.find(0, "zip") != NONE) {
                return HEAD;
            }
            if (crit != NONE) {
                return NAMES;
            }
            alg = listed(t, t.find(0, "alg"), SIGNED_ALGS, SEALED_ALGS);
            way = listedWay(t, t.find(0, "enc"));
            if (alg == NONE || way == NONE) {
                return ALG;
            }
            return alg < ECDH || takeAgreement(t) ? 0 : HEAD;
        }

        private boolean takeAgreement(Text t) {
            int epk = t.find(0, "epk");
            if (!t.isKind(epk, OBJECT) || !t.says(t.find(epk, "kty"), "EC") || !Key.isPointThere(t, epk)) {
                return false;
            }
            point.clear();
            return Key.takePoint(t, epk, point) && takeParty(t, t.find(0, "apu"), u) && takeParty(t, t.find(0, "apv"), v);
        }

        private static boolean takeParty(Text t, int i, Bytes to) {
            to.clear();
            return i == NONE || (t.areLetters(i) && t.putLettered(i, 0, PARTY_ROOM, to));
        }

        void makeSignedHead(int itsAlg, Key k) {
            asItIs = false;
            startHead(algName(itsAlg));
            putKid(k);
            head.put('}');
        }

        private void startHead(String itsAlg) {
            head.clear();
            head.putText("{\"alg\":\"");
            head.putText(itsAlg);
            head.put('"');
        }

        private void putKid(Key k) {
            if (k.kidThere) {
                head.putText(",\"kid\":");
                Text.putString(k.kid, 0, k.kid.many, head);
            }
        }

        /** Of alg and way as they were drawn for; a party that is not told is null. */
        void makeSealedHead(Key k, Bytes apu, Bytes apv) {
            startHead(algName(SIGNED_ALGS + alg));
            head.putText(",\"enc\":\"");
            head.putText(wayName(way));
            head.put('"');
            putKid(k);
            if (alg >= ECDH) {
                head.putText(",\"epk\":{\"kty\":\"EC\",\"crv\":\"P-256\"");
                Key.putPointMembers(point, head);
                head.put('}');
                putParty(",\"apu\":\"", apu);
                putParty(",\"apv\":\"", apv);
            }
            head.put('}');
        }

        private void putParty(String start, Bytes party) {
            if (party != null) {
                head.putText(start);
                head.putLetters(party, 0, party.many);
                head.put('"');
            }
        }

        /** What comes from RANDOM, in its order; false: there are too few bytes. */
        boolean draw(int itsAlg, int itsWay, Bytes from) {
            alg = itsAlg;
            way = itsWay;
            int freshMany = alg >= ECDH ? Curve.BYTES : 0;
            int keyMany = alg == DIR || alg == ECDH ? 0 : WAY_KEY[way];
            int seedMany = alg == OAEP ? Rsa.HASH : 0;
            if (from.many < freshMany + keyMany + seedMany + WAY_FIRST[way]) {
                return false;
            }
            fresh.clear();
            fresh.putPart(from, 0, freshMany);
            contentKey.clear();
            contentKey.putPart(from, freshMany, keyMany);
            seed.clear();
            seed.putPart(from, freshMany + keyMany, seedMany);
            first.clear();
            first.putPart(from, freshMany + keyMany + seedMany, WAY_FIRST[way]);
            return true;
        }

        /** How many bytes the whole token has. */
        int sealedLetters(int payloadMany) {
            return Bytes.lettersFor(head.many) + Bytes.lettersFor(sealedKey.many) + Bytes.lettersFor(first.many)
                + Bytes.lettersFor(Content.sealedBytes(way, payloadMany)) + Bytes.lettersFor(WAY_MARK[way]) + 4;
        }
    }
}
