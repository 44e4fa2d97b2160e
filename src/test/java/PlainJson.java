import java.io.ByteArrayOutputStream;
import java.nio.charset.StandardCharsets;
import java.util.ArrayList;
import java.util.List;

/** A second reader of texts of values, by recursion and exceptions, to compare with. */
final class PlainJson {
    static final class Fault extends RuntimeException {
        final int place;

        Fault(int place) {
            super("at " + place, null, false, false);
            this.place = place;
        }
    }

    static final class Value {
        int kind;
        int start;
        int parent;
        int place;
        byte[] said = new byte[0];
        byte[] name;
        final List<Integer> inside = new ArrayList<>();
    }

    final List<Value> values = new ArrayList<>();
    private final byte[] text;
    private int at;
    private int depth;

    PlainJson(byte[] text) {
        this.text = text;
        blanks();
        value(-1, null);
        blanks();
        if (at < text.length) {
            throw new Fault(at);
        }
    }

    static int answer(byte[] text) {
        try {
            return new PlainJson(text).values.size();
        } catch (Fault f) {
            return -100 - f.place;
        }
    }

    private int now() {
        if (at >= text.length) {
            throw new Fault(text.length);
        }
        return text[at] & 255;
    }

    private void want(boolean fits) {
        if (!fits) {
            throw new Fault(at);
        }
    }

    private void want(String letters) {
        for (char c : letters.toCharArray()) {
            want(now() == c);
            at++;
        }
    }

    private void blanks() {
        while (at < text.length && " \t\n\r".indexOf(text[at]) >= 0) {
            at++;
        }
    }

    private void value(int parent, byte[] name) {
        int c = now();
        int kind = "nft0\"[{".indexOf(c >= '0' && c <= '9' || c == '-' ? '0' : c);
        want(kind >= 0 && values.size() < 600);
        Value v = new Value();
        v.kind = kind;
        v.start = at;
        v.parent = parent;
        v.name = name;
        int number = values.size();
        if (parent >= 0) {
            v.place = values.get(parent).inside.size();
            values.get(parent).inside.add(number);
        }
        values.add(v);
        switch (kind) {
            case 0 -> want("null");
            case 1 -> want("false");
            case 2 -> want("true");
            case 3 -> v.said = number();
            case 4 -> v.said = string();
            default -> inside(number, kind == 6);
        }
    }

    private void inside(int number, boolean object) {
        want(depth < 40);
        depth++;
        at++;
        char last = object ? '}' : ']';
        blanks();
        if (now() != last) {
            while (true) {
                byte[] name = null;
                if (object) {
                    int quote = at;
                    want(now() == '"');
                    name = string();
                    for (int other : values.get(number).inside) {
                        if (java.util.Arrays.equals(values.get(other).name, name)) {
                            throw new Fault(quote);
                        }
                    }
                    blanks();
                    want(now() == ':');
                    at++;
                    blanks();
                }
                value(number, name);
                blanks();
                want(now() == ',' || now() == last);
                if (now() == last) {
                    break;
                }
                at++;
                blanks();
            }
        }
        at++;
        depth--;
    }

    private boolean digit() {
        return at < text.length && text[at] >= '0' && text[at] <= '9';
    }

    private void digits() {
        now();
        want(digit());
        while (digit()) {
            at++;
        }
    }

    private boolean is(String any) {
        return at < text.length && any.indexOf(text[at]) >= 0;
    }

    private byte[] number() {
        int from = at;
        if (is("-")) {
            at++;
        }
        if (is("0")) {
            at++;
        } else {
            digits();
        }
        if (is(".")) {
            at++;
            digits();
        }
        if (is("eE")) {
            at++;
            if (is("+-")) {
                at++;
            }
            digits();
        }
        return java.util.Arrays.copyOfRange(text, from, at);
    }

    private byte[] string() {
        ByteArrayOutputStream said = new ByteArrayOutputStream();
        at++;
        while (now() != '"') {
            int c = now();
            want(c >= 32);
            if (c == '\\') {
                at++;
                said.writeBytes(escape().getBytes(StandardCharsets.UTF_8));
            } else {
                said.writeBytes(sign());
            }
        }
        at++;
        return said.toByteArray();
    }

    private byte[] sign() {
        int c = now();
        int from = at;
        int more = c < 0x80 ? 0 : c >> 5 == 6 ? 1 : c >> 4 == 14 ? 2 : c >> 3 == 30 ? 3 : -1;
        want(more >= 0 && c != 0xc0 && c != 0xc1 && c < 0xf5);
        int point = more == 0 ? c : c & 63 >> more;
        at++;
        for (int i = 0; i < more; i++) {
            int next = now();
            want(next >> 6 == 2);
            point = point << 6 | next & 63;
            if (i == 0) {
                // what the least and the greatest sign with these two bytes in front are
                int low = point << 6 * (more - 1);
                int high = low | (1 << 6 * (more - 1)) - 1;
                want(high >= (more == 1 ? 0x80 : more == 2 ? 0x800 : 0x10000) && low <= 0x10ffff && !(low >= 0xd800 && high <= 0xdfff));
            }
            at++;
        }
        return java.util.Arrays.copyOfRange(text, from, at);
    }

    private int hex(String digits) {
        int c = now();
        int d = Character.digit(c < 128 ? c : 'x', 16);
        want(d >= 0 && digits.indexOf(Character.forDigit(d, 16)) >= 0);
        at++;
        return d;
    }

    private String escape() {
        int c = now();
        int plain = "\"\\/bfnrt".indexOf(c);
        want(plain >= 0 || c == 'u');
        at++;
        if (plain >= 0) {
            return String.valueOf("\"\\/\b\f\n\r\t".charAt(plain));
        }
        String all = "0123456789abcdef";
        int a = hex(all);
        int b = hex(a == 13 ? "0123456789ab" : all);
        int unit = a << 12 | b << 8 | hex(all) << 4 | hex(all);
        if (unit < 0xd800 || unit > 0xdbff) {
            return String.valueOf((char) unit);
        }
        want("\\u");
        int low = hex("d") << 12 | hex("cdef") << 8 | hex(all) << 4 | hex(all);
        return new String(new char[] {(char) unit, (char) low});
    }

    /** The value, written. */
    byte[] write(int i) {
        ByteArrayOutputStream to = new ByteArrayOutputStream();
        write(i, to);
        return to.toByteArray();
    }

    private void write(int i, ByteArrayOutputStream to) {
        Value v = values.get(i);
        switch (v.kind) {
            case 0 -> to.writeBytes(House.bytes("null"));
            case 1 -> to.writeBytes(House.bytes("false"));
            case 2 -> to.writeBytes(House.bytes("true"));
            case 3 -> to.writeBytes(v.said);
            case 4 -> quote(v.said, to);
            default -> {
                to.write(v.kind == 6 ? '{' : '[');
                for (int j = 0; j < v.inside.size(); j++) {
                    if (j > 0) {
                        to.write(',');
                    }
                    if (v.kind == 6) {
                        quote(values.get(v.inside.get(j)).name, to);
                        to.write(':');
                    }
                    write(v.inside.get(j), to);
                }
                to.write(v.kind == 6 ? '}' : ']');
            }
        }
    }

    static void quote(byte[] said, ByteArrayOutputStream to) {
        to.write('"');
        for (byte b : said) {
            int plain = "\"\\\b\f\n\r\t".indexOf(b);
            if (plain >= 0) {
                to.writeBytes(House.bytes("\\" + "\"\\bfnrt".charAt(plain)));
            } else if (b >= 0 && b < 32) {
                to.writeBytes(House.bytes(String.format("\\u%04x", b)));
            } else {
                to.write(b);
            }
        }
        to.write('"');
    }
}
