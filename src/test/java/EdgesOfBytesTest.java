import java.util.Arrays;

/** Promises 1 to 8: each sentence that names a boundary. */
public final class EdgesOfBytesTest {
    private static final int[] NO_ROWS = {-2, 8, 9, Integer.MIN_VALUE, Integer.MAX_VALUE};

    public static void main(String[] args) {
        newObject();
        newObjectsShareNothing();
        callsUpTo512();
        feed();
        feedToTheBrim();
        end();
        row();
        keep();
        poke();
        size();
        out();
        Check.end(1, 8);
    }

    private static void newObject() {
        SealedTokens x = new SealedTokens();
        Check.promise(1, "empty rows, TAPE and OUT");
        for (int r = 0; r < 8; r++) {
            Check.same("size of row " + r, x.size(r), 0);
            Check.same("byte 0 of row " + r, x.poke(r, 0, 0), House.BAD);
        }
        Check.same("size of OUT", x.size(-1), 0);
        Check.same("byte 0 of OUT", x.out(0), House.NONE);
        Check.same("a first byte of the tape", x.end(1), House.BAD);
        Check.same("the tape as a row", x.row(3), 0);
        Check.same("OUT as a row", x.keep(3), 0);
        Check.promise(1, "no keys");
        for (int k = 0; k < 16; k++) {
            Check.same("told of " + k, x.told(k, 0), House.BAD);
            Check.same("print of " + k, x.print(k), House.BAD);
            Check.same("drop of " + k, x.drop(k), House.BAD);
        }
        Check.promise(1, "no text was read");
        Check.same("value", x.value(0, 0), House.BAD);
        Check.same("text", x.text(0), House.BAD);
        Check.same("name", x.name(0), House.BAD);
        Check.same("member", x.member(0, 0), House.BAD);
        Check.same("write", x.write(0), House.BAD);
    }

    private static void newObjectsShareNothing() {
        Check.promise(1, "a new object beside one that was used");
        House used = House.lived();
        newObject();
        Check.same("the used one's tape", used.x.end(20), 20);
        Check.same("the used one's key", used.x.told(0, 0), 0);
    }

    private static void callsUpTo512() {
        Check.promise(1, "an object is used for at most 512 calls");
        SealedTokens x = new SealedTokens();
        for (int call = 1; call <= 509; call++) {
            Check.same("call " + call, call % 3 == 0 ? x.row(call % 8) : call % 3 == 1 ? x.feed(call, 2, 3, 4, 5) : x.end(4), call % 3 == 1 ? 20 : 4);
        }
        Check.same("call 510", x.row(2), 4);
        Check.same("call 511", x.hash(256, 2), 32);
        Check.same("call 512", x.keep(7), 32);
    }

    private static void feed() {
        Check.promise(2, "twenty bytes come behind the TAPE, the highest of a first");
        SealedTokens x = new SealedTokens();
        Check.same("feed", x.feed(0x80ff0102, 0x03040506, 0x0708090a, 0x0b0c0d0e, 0x0f10ff80), 20);
        Check.same("end", x.end(1), 1);
        Check.same("feed behind one byte", x.feed(-1, 0, Integer.MIN_VALUE, Integer.MAX_VALUE, 1), 21);
        Check.same("row", x.row(0), 21);
        int[] due = {0x80, 255, 255, 255, 255, 0, 0, 0, 0, 0x80, 0, 0, 0, 0x7f, 255, 255, 255, 0, 0, 0, 1};
        for (int i = 0; i < due.length; i++) {
            Check.same("byte " + i, x.poke(0, i, 0), due[i]);
        }
    }

    private static SealedTokens withTape(int many) {
        SealedTokens x = new SealedTokens();
        for (int i = 0; i < 409; i++) {
            x.feed(1, 2, 3, 4, 5);
        }
        if (many > 8180) {
            x.end(many - 20);
            x.feed(1, 2, 3, 4, 5);
        }
        x.end(many);
        return x;
    }

    private static void feedToTheBrim() {
        Check.promise(2, "BAD: it would have more than 8192");
        for (int many : new int[] {8152, 8160, 8171, 8172}) {
            Check.same("feed behind " + many, withTape(many).feed(1, 2, 3, 4, 5), many + 20);
        }
        for (int many : new int[] {8173, 8180, 8191, 8192}) {
            SealedTokens x = withTape(many);
            Check.same("feed behind " + many, x.feed(1, 2, 3, 4, 5), House.BAD);
            Check.same("the tape has one more", x.end(many + 1), House.BAD);
            Check.same("the tape has as many as before", x.end(many), many);
        }
        Check.promise(2, "the tape has 8192 bytes");
        SealedTokens full = withTape(8172);
        full.feed(1, 2, 3, 4, 0x05060708);
        Check.same("row", full.row(7), 8192);
        Check.same("its last byte", full.poke(7, 8191, 0), 8);
        Check.same("feed after row", full.feed(1, 2, 3, 4, 5), 20);
    }

    private static void end() {
        Check.promise(3, "the TAPE has its first n bytes alone");
        for (int n : new int[] {0, 1, 19, 20}) {
            SealedTokens x = new SealedTokens();
            x.feed(0x01020304, 0x05060708, 0x090a0b0c, 0x0d0e0f10, 0x11121314);
            Check.same("end of " + n, x.end(n), n);
            Check.same("one more is gone", x.end(n + 1), House.BAD);
            Check.same("feed behind", x.feed(0x63000000, 0, 0, 0, 0), n + 20);
            x.row(0);
            Check.same("the first that came behind", x.poke(0, n, 0), 0x63);
            Check.same("the last of the first ones", n == 0 ? 0 : x.poke(0, n - 1, 0), n);
        }
        Check.promise(3, "BAD");
        for (int n : new int[] {-1, 21, 8192, 8193, Integer.MIN_VALUE, Integer.MAX_VALUE}) {
            House h = House.lived();
            Check.refused(h, "end of " + n, () -> h.x.end(n), House.BAD);
        }
        SealedTokens none = new SealedTokens();
        Check.same("end of 0 of none", none.end(0), 0);
        Check.same("end of 1 of none", none.end(1), House.BAD);
        SealedTokens full = withTape(8192);
        Check.same("end of 8193 of 8192", full.end(8193), House.BAD);
        Check.same("end of 8192 of 8192", full.end(8192), 8192);
    }

    private static void row() {
        for (int r : new int[] {0, 7}) {
            Check.promise(4, "the TAPE becomes a row, and is empty then");
            House h = new House().put(r, "what was there before, and is longer");
            h.x.feed(0x41000000, 0, 0, 0, 0x42);
            Check.same("row " + r, h.x.row(r), 20);
            Check.same("size", h.x.size(r), 20);
            Check.same("its last byte", h.x.poke(r, 19, 0), 0x42);
            Check.same("none behind", h.x.poke(r, 20, 0), House.BAD);
            Check.same("a byte of the tape", h.x.end(1), House.BAD);
            Check.promise(4, "a TAPE without bytes");
            Check.same("row " + r, h.x.row(r), 0);
            Check.same("size", h.x.size(r), 0);
        }
        Check.promise(4, "BAD");
        for (int r : new int[] {-1, -2, 8, Integer.MIN_VALUE, Integer.MAX_VALUE}) {
            House h = House.lived();
            Check.refused(h, "row " + r, () -> h.x.row(r), House.BAD);
            Check.same("the tape is still there", h.x.end(20), 20);
        }
        Check.promise(4, "TAPE is used up by row() alone");
        House lived = House.lived();
        lived.x.keep(1);
        lived.x.decode(1);
        lived.x.write(0);
        lived.x.key(2);
        lived.x.print(0);
        lived.x.drop(0);
        Check.same("the tape is still there", lived.x.end(20), 20);
        Check.promise(4, "a full TAPE becomes a full row");
        SealedTokens full = withTape(8192);
        Check.same("row", full.row(0), 8192);
        Check.same("a byte of the tape", full.end(1), House.BAD);
    }

    private static void keep() {
        for (int r : new int[] {0, 7}) {
            Check.promise(5, "OUT becomes a row, and stays");
            House h = new House().put(1, "abc").put(r, "what was there before");
            h.x.encode(1);
            Check.same("keep " + r, h.x.keep(r), 4);
            Check.same("size", h.x.size(r), 4);
            Check.that("OUT stays", h.outText().equals("YWJj"));
            h.x.poke(r, 0, 1);
            Check.that("OUT is no part of the row", h.outText().equals("YWJj"));
            h.x.hash(512, 1);
            Check.same("the row is no part of OUT", h.x.size(r), 4);
            Check.promise(5, "an OUT without bytes");
            House none = new House().put(r, "what was there before");
            Check.same("keep " + r, none.x.keep(r), 0);
            Check.same("size", none.x.size(r), 0);
        }
        Check.promise(5, "a full OUT");
        House full = new House().put(2, new byte[6144]);
        full.x.encode(2);
        Check.same("keep", full.x.keep(3), 8192);
        Check.same("its last byte", full.x.poke(3, 8191, 0), 'A');
        Check.promise(5, "BAD");
        for (int r : new int[] {-1, -2, 8, Integer.MIN_VALUE, Integer.MAX_VALUE}) {
            House h = House.lived();
            Check.refused(h, "keep " + r, () -> h.x.keep(r), House.BAD);
        }
    }

    private static void poke() {
        Check.promise(6, "a byte becomes itself ^ x (0 .. 255)");
        House h = new House().put(0, new byte[] {0, (byte) 255, 0x5a}).put(7, new byte[] {1});
        Check.same("0 ^ 0", h.x.poke(0, 0, 0), 0);
        Check.same("0 ^ 255", h.x.poke(0, 0, 255), 255);
        Check.same("255 ^ 255", h.x.poke(0, 1, 255), 0);
        Check.same("5a ^ 1", h.x.poke(0, 2, 1), 0x5b);
        Check.same("of row 7", h.x.poke(7, 0, 2), 3);
        Check.same("another stays", h.x.poke(0, 1, 0), 0);
        Check.promise(6, "BAD: also there is none such");
        int[][] bad = {{0, -1, 0}, {0, 3, 0}, {0, 8191, 0}, {0, 8192, 0}, {0, Integer.MIN_VALUE, 0}, {0, Integer.MAX_VALUE, 0}, {7, 1, 0}, {1, 0, 0}, {1, -1, 0}};
        House lived = House.lived().put(0, new byte[] {0, (byte) 255, 0x5a}).put(7, new byte[] {1});
        for (int[] b : bad) {
            Check.refused(lived, "poke of " + Arrays.toString(b), () -> lived.x.poke(b[0], b[1], b[2]), House.BAD);
        }
        Check.promise(6, "BAD: x is not 0 .. 255");
        for (int x : new int[] {-1, 256, 257, 511, Integer.MIN_VALUE, Integer.MAX_VALUE}) {
            Check.refused(lived, "poke by " + x, () -> lived.x.poke(0, 0, x), House.BAD);
        }
        Check.promise(6, "BAD: no such row");
        for (int r : new int[] {-1, -2, 8, Integer.MIN_VALUE, Integer.MAX_VALUE}) {
            Check.refused(lived, "poke of row " + r, () -> lived.x.poke(r, 0, 0), House.BAD);
        }
        Check.promise(6, "a full row's last byte");
        House full = new House().put(0, new byte[8192]);
        Check.same("byte 8191", full.x.poke(0, 8191, 128), 128);
        Check.same("byte 8192", full.x.poke(0, 8192, 128), House.BAD);
    }

    private static void size() {
        Check.promise(7, "how many bytes a row has; of r = -1 OUT");
        House h = new House().put(0, "a").put(7, new byte[8192]);
        h.x.hash(512, 0);
        Check.same("row 0", h.x.size(0), 1);
        Check.same("row 6", h.x.size(6), 0);
        Check.same("row 7", h.x.size(7), 8192);
        Check.same("OUT", h.x.size(-1), 64);
        Check.promise(7, "BAD");
        House lived = House.lived();
        for (int r : NO_ROWS) {
            Check.refused(lived, "size of " + r, () -> lived.x.size(r), House.BAD);
        }
    }

    private static void out() {
        Check.promise(8, "byte i of OUT (0 .. 255)");
        House h = new House().put(0, House.letters(new byte[] {0, (byte) 255, 127, (byte) 128}));
        h.x.decode(0);
        int[] due = {0, 255, 127, 128};
        for (int i = 0; i < 4; i++) {
            Check.same("byte " + i, h.x.out(i), due[i]);
        }
        Check.promise(8, "NONE");
        for (int i : new int[] {-1, 4, 5, 8191, 8192, Integer.MIN_VALUE, Integer.MAX_VALUE}) {
            Check.refused(h, "byte " + i, () -> h.x.out(i), House.NONE);
        }
        h.put(1, "");
        h.x.decode(1);
        Check.same("byte 0 of an empty OUT", h.x.out(0), House.NONE);
        Check.promise(8, "a full OUT");
        h.put(1, new byte[6144]);
        h.x.encode(1);
        Check.same("byte 8191", h.x.out(8191), 'A');
        Check.same("byte 8192", h.x.out(8192), House.NONE);
    }
}
