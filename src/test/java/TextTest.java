import java.util.Arrays;
import java.util.Random;

/** Promises 9 to 14. */
public final class TextTest {
    private static final Random RANDOM = new Random(20);

    public static void main(String[] args) {
        faults();
        surrogatesAndUtf8();
        limits();
        sameNames();
        handStays();
        refusals();
        said();
        written();
        randomTexts();
        everyByte();
        Check.end();
    }

    private static void fault(String text, int due) {
        House h = new House().mark().put(0, text);
        Check.same("json " + text, h.x.json(0), due);
        Check.same("the second reader of " + text, PlainJson.answer(House.bytes(text)), due);
        h.unmarked("json");
    }

    private static void faults() {
        String[] early = {"", " ", "[", "[1", "[1,", "{", "{\"a\"", "{\"a\":", "{\"a\":1", "{\"a\":1,", "\"", "\"\\", "\"\\u", "\"\\u12", "-", "1.", "1e", "1e+", "tru", "f",
            "nul", "\"\\ud800", "\"\\ud800\\", "\"\\ud800\\u", "\"\\ud800\\udc0", "\"\u00c3", "\"\u00f0\u0090\u0080", "\t\r\n ", "[[]", "[{}", "-0.", "2E-"};
        for (String text : early) {
            fault(text, -100 - text.length());
        }
        // behind the bar stands the first byte with which no text goes on
        String[] wrong = {"|]", "[|,", "[1,|]", "[1|:", "[1 |1", "{|1", "{|,", "{\"a\"|,", "{\"a\"|}", "{\"a\":|}", "{\"a\":1|]", "{\"a\":1,|}", "{\"a\":1 |\"",
            "0|1", "-|a", "-0|0", "1.|e", "1.|.", "1e|.", "1e+|-", "1|+", "|+1", "|.5", "tr|e", "true|e", "nul|L", "|True", "|N", "[]|,", "[]|]", "1 |2", "1 |,",
            "\"|\n", "\"a|\u001f", "\"\\|x", "\"\\|U", "\"\\|0", "\"\\u|g", "\"\\u00|G", "\"\\u000|\"", "\"\"|\"", "|'", "|/", "[|\u000b", "|\u000c1", "|\u00a0", "|\u0000", "1|\u0000", "|\u00ef\u00bb\u00bf1",
            "\"\u00c3|\"", "{\"a\u00c3|\"", "[1,2|}", "{}|}", "1.5|.", "1e5|e", "1e5|.", "-|-", "-|+"};
        for (String text : wrong) {
            int place = text.indexOf('|');
            String plain = text.substring(0, place) + text.substring(place + 1);
            fault(plain, -100 - place);
            fault(plain + " [1] {} \"x\"", -100 - place);
        }
        String[] right = {"0", "-0", " 1 ", "1.0e-05", "9e9", "2E+0", "null", "\ttrue\r\n", "false", "\"\"", "[]", "{}", "[ ]", "{ }", "\"\u007f\"", "-12.50E+003"};
        for (String text : right) {
            fault(text, 1);
        }
        fault("[0,-1 , [ ] ,{\"\":null}]", 6);
        House h = new House();
        Check.same("json", h.x.json(-1), House.BAD);
        Check.same("json", h.x.json(8), House.BAD);
    }

    private static void bytesFault(int due, int... bytes) {
        byte[] text = new byte[bytes.length + 2];
        text[0] = '"';
        for (int i = 0; i < bytes.length; i++) {
            text[i + 1] = (byte) bytes[i];
        }
        text[bytes.length + 1] = '"';
        House h = new House().put(0, text);
        Check.same("json of bytes " + Arrays.toString(bytes), h.x.json(0), due);
        Check.same("the second reader", PlainJson.answer(text), due);
    }

    private static void surrogatesAndUtf8() {
        String[] wrong = {"\\ud800|\"", "\\ud800|x", "\\ud800\\|n", "\\ud800\\u|0041", "\\ud800\\ud|8", "\\udbff\\ud|b", "\\ud|c00", "\\ud|fff", "\\uD|D", "\\uDbfF\\uDf0|g", "\\ud800\\u|e000", "\\ud83d\\ude00\\ud|e00"};
        for (String text : wrong) {
            int place = text.indexOf('|');
            fault("\"" + text.substring(0, place) + text.substring(place + 1), -101 - place);
        }
        fault("\"\\ud7ff\\ue000\\uD83D\\uDE00\\udbff\\udfff\\ud800\\udc00\"", 1);
        bytesFault(1, 0xc2, 0x80);
        bytesFault(1, 0xdf, 0xbf);
        bytesFault(1, 0xe0, 0xa0, 0x80);
        bytesFault(1, 0xed, 0x9f, 0xbf);
        bytesFault(1, 0xee, 0x80, 0x80);
        bytesFault(1, 0xef, 0xbf, 0xbf);
        bytesFault(1, 0xf0, 0x90, 0x80, 0x80);
        bytesFault(1, 0xf4, 0x8f, 0xbf, 0xbf);
        bytesFault(-101, 0x80);
        bytesFault(-101, 0xbf, 0x80);
        bytesFault(-101, 0xc0, 0x80);
        bytesFault(-101, 0xc1, 0xbf);
        bytesFault(-102, 0xe0, 0x9f, 0xbf);
        bytesFault(-102, 0xed, 0xa0, 0x80);
        bytesFault(-102, 0xf0, 0x8f, 0xbf, 0xbf);
        bytesFault(-102, 0xf4, 0x90, 0x80, 0x80);
        bytesFault(-101, 0xf5, 0x80, 0x80, 0x80);
        bytesFault(-101, 0xff);
        bytesFault(-102, 0xc2, 0xc2);
        bytesFault(-103, 0xe1, 0x80, 0x7f);
        bytesFault(-104, 0xf1, 0x80, 0x80, 0xc0);
        bytesFault(-103, 0xf1, 0x80);
    }

    private static void limits() {
        fault("[".repeat(40) + "]".repeat(40), 40);
        fault("[".repeat(41) + "]".repeat(41), -140);
        fault("[".repeat(41), -140);
        fault("{\"a\":".repeat(40) + "1" + "}".repeat(40), 41);
        fault("{\"a\":".repeat(40) + "[]" + "}".repeat(40), -300);
        fault("[" + "[".repeat(39) + "]".repeat(39) + "," + "[".repeat(40), -100 - 119);
        fault("[" + "0,".repeat(598) + "0]", 600);
        fault("[" + "0,".repeat(599) + "0]", -100 - 1199);
        fault("[" + "0,".repeat(599) + " x", -100 - 1200);
        fault("[" + "0,".repeat(599), -100 - 1199);
        fault("[" + "0,".repeat(598) + "[]]", 600);
        fault("[" + "0,".repeat(598) + "[0]]", -100 - 1198);
        fault("[" + "0,".repeat(597) + "{\"a\":0}]", 600);
        fault("[" + "0,".repeat(598) + "{\"a\" : \"x\n\"}]", -100 - 1204);
        StringBuilder members = new StringBuilder("{");
        for (int i = 0; i < 599; i++) {
            members.append("\"").append(Integer.toString(i, 36)).append("\":0,");
        }
        fault(members.substring(0, members.length() - 1) + "}", 600);
        fault(members + "\"zz\":0}", -100 - members.length() - 5);
        fault(members + "\"a\":0}", -100 - members.length());
        fault("[1,2" + " ".repeat(8187) + "]", 3);
        fault("[1,2" + " ".repeat(8188), -100 - 8192);
    }

    private static void sameNames() {
        fault("{\"a\":1,\"a\":2}", -107);
        fault("{\"a\":1, \"\\u0061\":2}", -108);
        fault("{\"\\ud83d\\ude00\":1,\"\u00f0\u009f\u0098\u0080\":2}", -118);
        fault("{\"a\":1,\"b\":{\"a\":1,\"b\":2},\"c\":[{\"a\":{}},{\"a\":{}}]}", 10);
        fault("{\"a\":1,\"b\":{\"a\":1,\"b\":2,\"a\":3},\"a\":1}", -124);
        fault("{\"\":1,\"\":2}", -106);
        fault("{\"\":1,\"\\u0000\":2,\" \":3}", 4);
        fault("{\"a\":1,\"a", -109);
        fault("{\"a\":1,\"a\"", -107);
        fault("{\"a\":1,\"a\n\"", -109);
        fault("{\"a\":1,\"a\"x", -107);
        fault("{\"a\":1,\"A\":2,\"ab\":3,\"a/\":4,\"a\\/\":5}", -127);
        fault("{\"/\":1,\"\\/\":2}", -107);
    }

    private static void handStays() {
        House h = new House().put(0, "[7,\"seven\"]").put(1, "[1,2,3");
        Check.same("json", h.x.json(0), 3);
        Check.same("json", h.x.json(1), -106);
        Check.same("value", h.x.value(2, 0), 4);
        h.x.poke(0, 1, 1);
        h.put(0, "");
        Check.same("json", h.x.json(0), -100);
        Check.same("a copy is at hand", h.x.write(0), 11);
        Check.that("a copy is at hand", h.outText().equals("[7,\"seven\"]"));
        h.put(2, "{\"kty\":\"oct\",\"k\":\"AA\"}");
        Check.same("key", h.x.key(2), 0);
        h.put(2, House.letters("{\"alg\":\"HS256\"}") + "..");
        Check.same("verify", h.x.verify(2), House.KEY);
        h.put(2, House.letters("{\"alg\":\"dir\",\"enc\":\"A128GCM\"}") + "....");
        Check.same("decrypt", h.x.decrypt(2), House.KEY);
        Check.same("what tokens and keys read is not at hand", h.x.write(0), 11);
        h.put(3, "true");
        Check.same("json", h.x.json(3), 1);
        Check.same("value", h.x.value(1, 0), House.BAD);
        Check.same("value", h.x.value(0, 0), 2);
    }

    private static void refusals() {
        House h = new House().put(0, "{\"a\":[1,\"x\",true],\"b\":null}").put(1, "a").mark();
        SealedTokens x = h.x;
        Check.same("member of no text", x.member(0, 1), House.BAD);
        Check.same("json", x.json(0), 6);
        int[][] bad = {{-1, 0}, {6, 0}, {0, -1}, {0, 5}, {Integer.MAX_VALUE, 0}, {Integer.MIN_VALUE, 0}, {0, Integer.MIN_VALUE}};
        for (int[] b : bad) {
            Check.same("value", x.value(b[0], b[1]), House.BAD);
        }
        for (int i : new int[] {-1, 6, 0, 1, 4, 5, 700, Integer.MIN_VALUE}) {
            Check.same("text " + i, x.text(i), House.BAD);
        }
        for (int i : new int[] {-1, 6, 0, 2, 3, 4, 700}) {
            Check.same("name " + i, x.name(i), House.BAD);
        }
        for (int i : new int[] {-1, 6, 700}) {
            Check.same("write", x.write(i), House.BAD);
        }
        for (int i : new int[] {-1, 6, 1, 2, 3, 4, 5}) {
            Check.same("member", x.member(i, 1), House.BAD);
        }
        Check.same("member", x.member(0, -1), House.BAD);
        Check.same("member", x.member(0, 8), House.BAD);
        Check.same("member", x.member(0, 2), House.NONE);
        Check.same("member", x.member(0, 1), 1);
        h.unmarked("a refusal");
        h.put(1, "b");
        Check.same("member", x.member(0, 1), 5);
        h.put(1, "bb");
        Check.same("member", x.member(0, 1), House.NONE);
        h.put(2, "[\"a\",{\"\":{\"b\":1},\"c\":2}]").put(1, "");
        x.json(2);
        Check.same("the empty name", x.member(2, 1), 3);
        Check.same("not an inner one", x.member(0, 1), House.BAD);
        h.put(1, "b");
        Check.same("not an inner one", x.member(2, 1), House.NONE);
    }

    private static void said() {
        House h = new House().put(0, House.utf8("{\"\\u0000k\\\"\" : \"a\\u00e9\\n\\/\\ud83d\\ude00\u20ac\", \"n\":-0.10E+2}"));
        Check.same("json", h.x.json(0), 3);
        Check.same("name", h.x.name(1), 3);
        Check.same("name", h.out(), House.bytes("\0k\""));
        Check.same("text", h.x.text(1), 12);
        Check.same("text", h.out(), House.utf8("a\u00e9\n/\ud83d\ude00\u20ac"));
        Check.same("text", h.x.text(2), 8);
        Check.that("text", h.outText().equals("-0.10E+2"));
        Check.same("name", h.x.name(2), 1);
        Check.same("bytes", h.x.value(1, 1), 12);
        for (int point : new int[] {0, 1, 0x7e, 0x7f, 0x80, 0x81, 0x7fe, 0x7ff, 0x800, 0x801, 0xfff, 0x1000, 0xd7ff, 0xe000, 0xfffe, 0xffff, 0x10000, 0x10001, 0x103ff, 0x10400, 0x1ffff, 0xfffff, 0x100000, 0x10ffff}) {
            StringBuilder text = new StringBuilder("\"");
            for (char c : Character.toChars(point)) {
                text.append(String.format("\\u%04x", (int) c));
            }
            House one = new House().put(0, text + "\"");
            Check.same("json", one.x.json(0), 1);
            one.x.text(0);
            Check.same("sign " + point, one.out(), House.utf8(Character.toString(point)));
        }
        Check.same("bytes", h.x.value(2, 1), 8);
        Check.same("members", h.x.value(0, 1), 2);
    }

    private static void writtenAs(String text, String due) {
        House h = new House().put(0, text);
        Check.that("read " + text, h.x.json(0) > 0);
        Check.same("write", h.x.write(0), due.length());
        Check.that("written " + h.outText() + ", due is " + due, h.outText().equals(due));
    }

    private static void written() {
        writtenAs(" [ 1 , { \"a\" : [ ] , \"b\" : { } } , null , true , false , -0.0e+0 ] ", "[1,{\"a\":[],\"b\":{}},null,true,false,-0.0e+0]");
        writtenAs("\"\\u0000\\u0001\\b\\t\\n\\u000b\\f\\r\\u001F\\u001a \\\"\\\\\\/\\u007F\"", "\"\\u0000\\u0001\\b\\t\\n\\u000b\\f\\r\\u001f\\u001a \\\"\\\\/\u007f\"");
        writtenAs("\"\\u0008\\u0009\\u000a\\u000C\\u000d\\u0022\\u005c\"", "\"\\b\\t\\n\\f\\r\\\"\\\\\"");
        writtenAs("{\"\\u000a\":\"\\u00E9\"}", "{\"\\n\":\"\u00c3\u00a9\"}");
        writtenAs("[[[[]],[]],{\"a\":{\"b\":{}}},[[]]]", "[[[[]],[]],{\"a\":{\"b\":{}}},[[]]]");
        writtenAs("[".repeat(40) + "]".repeat(40), "[".repeat(40) + "]".repeat(40));
        writtenAs("[" + "0,".repeat(598) + "0]", "[" + "0,".repeat(598) + "0]");
        writtenAs("\"" + "\\u0001".repeat(1365) + "\"", "\"" + "\\u0001".repeat(1365) + "\"");
        House h = new House().put(0, "[1,[2,{\"a\":[3]}],4]");
        h.x.json(0);
        String[] due = {"[1,[2,{\"a\":[3]}],4]", "1", "[2,{\"a\":[3]}]", "2", "{\"a\":[3]}", "[3]", "3", "4"};
        for (int i = 0; i < due.length; i++) {
            Check.same("write", h.x.write(i), due[i].length());
            Check.that("write " + i, h.outText().equals(due[i]));
        }
    }

    private static String made(int depth) {
        String[] blanks = {"", "", "", " ", "\n", "\t ", "\r"};
        String b = blanks[RANDOM.nextInt(7)];
        switch (RANDOM.nextInt(depth > 4 ? 6 : 9)) {
            case 0: return b + "null";
            case 1: return "false" + b;
            case 2: return "true" + b;
            case 3: return b + (RANDOM.nextBoolean() ? "-" : "") + RANDOM.nextInt(200) + (RANDOM.nextInt(3) == 0 ? ".0" + RANDOM.nextInt(9) : "") + (RANDOM.nextInt(3) == 0 ? "eE".charAt(RANDOM.nextInt(2)) + "-3" : "");
            case 4: case 5: return madeString() + b;
            default:
                boolean object = RANDOM.nextBoolean();
                StringBuilder s = new StringBuilder(object ? "{" : "[").append(b);
                int many = RANDOM.nextInt(4);
                for (int i = 0; i < many; i++) {
                    s.append(i > 0 ? "," : "").append(b).append(object ? madeString() + b + ":" : "").append(made(depth + 1));
                }
                return s.append(object ? "}" : "]").toString();
        }
    }

    private static String madeString() {
        String[] parts = {"a", "b", "\\n", "\\u0041", "\\u00e9", "\u00c3\u00a9", "\\ud83d\\ude00", "\u00f0\u009f\u0098\u0080", "\u00e2\u0082\u00ac", "\\\"", "\\\\", "/", "\\/", "\\u0000", "\\u001F", "\u007f", "\\b", "\\uFFFF"};
        StringBuilder s = new StringBuilder("\"");
        for (int i = RANDOM.nextInt(5); i > 0; i--) {
            s.append(parts[RANDOM.nextInt(parts.length)]);
        }
        return s.append("\"").toString();
    }

    /** Read, looked at, cut off and changed, as the second reader does. */
    private static void randomTexts() {
        House h = new House();
        for (int turn = 0; turn < 3000; turn++) {
            byte[] text = House.bytes(made(0));
            h.put(0, text);
            int due = PlainJson.answer(text);
            Check.same("json " + new String(text), h.x.json(0), due);
            if (due > 0) {
                compare(h, new PlainJson(text));
            }
            for (int cut = 0; cut < 6 && text.length > 0; cut++) {
                byte[] changed = text.clone();
                if (cut < 2) {
                    changed = Arrays.copyOf(text, RANDOM.nextInt(text.length));
                } else if (cut < 4) {
                    changed[RANDOM.nextInt(text.length)] = (byte) RANDOM.nextInt(256);
                } else {
                    changed[RANDOM.nextInt(text.length)] = (byte) "[]{},:\"\\0u1.e-dc nt".charAt(RANDOM.nextInt(19));
                }
                h.put(1, changed);
                Check.same("json " + new String(changed), h.x.json(1), PlainJson.answer(changed));
            }
        }
    }

    private static void compare(House h, PlainJson plain) {
        for (int i = 0; i < plain.values.size(); i++) {
            PlainJson.Value v = plain.values.get(i);
            Check.same("kind", h.x.value(i, 0), v.kind);
            Check.same("many", h.x.value(i, 1), v.kind >= 5 ? v.inside.size() : v.said.length);
            Check.same("parent", h.x.value(i, 2), v.parent);
            Check.same("place", h.x.value(i, 3), v.place);
            Check.same("start", h.x.value(i, 4), v.start);
            boolean says = v.kind == 3 || v.kind == 4;
            Check.same("text", h.x.text(i), says ? v.said.length : House.BAD);
            if (says) {
                Check.same("text", h.out(), v.said);
            }
            Check.same("name", h.x.name(i), v.name == null ? House.BAD : v.name.length);
            if (v.name != null) {
                Check.same("name", h.out(), v.name);
                h.put(2, v.name);
                Check.same("member", h.x.member(v.parent, 2), i);
            }
            byte[] due = plain.write(i);
            Check.same("write", h.x.write(i), due.length);
            Check.same("write", h.out(), due);
        }
    }

    /** Each of all bytes behind each front. */
    private static void everyByte() {
        String[] fronts = {"", "[", "[1", "[1,", "{", "{\"a\"", "{\"a\":", "{\"a\":1", "{\"a\":1,", "\"", "\"\\", "\"\\u", "\"\\ud", "\"\\uD8", "\"\\ud800", "\"\\ud800\\", "\"\\ud800\\u", "\"\\ud800\\ud",
            "\"\u00e0", "\"\u00ed", "\"\u00f0", "\"\u00f4", "\"\u00e1\u0080", "\"\u00c2", "0", "-", "-0", "12", "1.", "1.2", "1e", "1e-", "1E5", "tr", "nul", "fals", "[]", "\"\"", "1 "};
        for (String front : fronts) {
            for (int b = 0; b < 256; b++) {
                byte[] text = House.bytes(front + (char) b);
                Check.same("json " + front + " and " + b, new House().put(0, text).x.json(0), PlainJson.answer(text));
            }
        }
    }
}
