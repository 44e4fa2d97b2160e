/** Promises 9 to 16: each sentence that names a boundary. */
public final class EdgesOfTextsTest {
    private static final int[] NO_ROWS = {-1, -2, 8, Integer.MIN_VALUE, Integer.MAX_VALUE};

    public static void main(String[] args) {
        oneValue();
        blanks();
        numbers();
        bytesOfStrings();
        escapes();
        surrogates();
        endsTooEarly();
        brackets();
        values();
        names();
        firstThatIsMet();
        atHand();
        value();
        text();
        name();
        member();
        write();
        encode();
        decode();
        Check.end(9, 16);
    }

    /** As many values, or -100 less the fault: then what was at hand stays, and all else. */
    private static void json(String text, int due) {
        House h = House.lived().put(1, text);
        String what = "json " + (text.length() > 60 ? text.substring(0, 60) + " ..." : text);
        if (due < 0) {
            Check.refused(h, what, () -> h.x.json(1), due);
        } else {
            Check.same(what, h.x.json(1), due);
        }
    }

    /** The bar stands before the byte that is the fault. */
    private static void fault(String barred) {
        int place = barred.indexOf('|');
        json(barred.substring(0, place) + barred.substring(place + 1), -100 - place);
    }

    private static void right(String... texts) {
        for (String text : texts) {
            json(text, 1);
        }
    }

    private static void faults(String... barred) {
        for (String text : barred) {
            fault(text);
        }
    }

    private static void oneValue() {
        Check.promise(9, "one value");
        json("", -100);
        json(" \n", -102);
        right("0", "\"\"", "[]", "{}", "null", "true", "false");
        faults("1 |2", "[]|[]", "{}|,", "null|null", "\"\"|\"\"", "|,", "|]", "|}", "|:");
        Check.promise(9, "a full row");
        json("\"" + "a".repeat(8190) + "\"", 1);
        json("\"" + "a".repeat(8191), -100 - 8192);
        json(" ".repeat(8191) + "1", 1);
        json(" ".repeat(8192), -100 - 8192);
        Check.promise(9, "the words of null, false, true");
        faults("nul|", "null|l", "n|ill", "fals|", "fal|l", "false|e", "tru|", "t|true", "true|1", "|Null", "|TRUE");
    }

    private static void blanks() {
        Check.promise(9, "blanks (32, 9, 10, 13) around it and all signs");
        for (char b : new char[] {32, 9, 10, 13}) {
            String text = "%[%1%,%{%\"a\"%:%null%,%\"b\"%:%[%]%}%,%{%}%]%".replace('%', b);
            json(text, 6);
        }
        for (char b : new char[] {0, 8, 11, 12, 14, 31, 33, 127, 0x85, 0xa0}) {
            fault("|" + b + "1");
            fault("1|" + b);
            fault("[|" + b + "1]");
            fault("[1|" + b + "]");
            fault("{|" + b + "\"a\":1}");
            fault("{\"a\"|" + b + ":1}");
            fault("{\"a\":|" + b + "1}");
        }
        Check.promise(9, "no blanks inside of a value");
        faults("-| 1", "1 |.5", "1.| 5", "1e| 5", "nu| ll", "\"\\| n\"", "\"\\u00| 41\"");
    }

    private static void numbers() {
        Check.promise(9, "numbers of RFC 8259");
        right("0", "-0", "9", "10", "-1", "0.0", "1.05", "0e0", "0E+0", "1e-1", "12.5E007", "-0.0e-0");
        faults("-|", "-|-1", "0|1", "-0|1", "0|0", "1.|", "1.|e1", "|.1", "|+1", "1e|", "1e+|", "1e|e", "1e+|+", "1.1|.1", "0|x1", "1e1|.0", "1|a", "-|a");
        faults("0|/", "1|/", "1|:", "1.|/", "1.|:", "1e|/", "1e|:");
    }

    private static void bytesOfStrings() {
        Check.promise(9, "bytes of strings are none below 32");
        right("\" \"", "\"\u007f\"");
        for (char c : new char[] {0, 9, 10, 13, 31}) {
            fault("\"a|" + c + "\"");
            fault("{\"|" + c + "\":1}");
        }
        Check.promise(9, "right UTF-8: the first and the last of two, three and four bytes");
        right("\"\u00c2\u0080\u00df\u00bf\"", "\"\u00e0\u00a0\u0080\u00ef\u00bf\u00bf\"", "\"\u00f0\u0090\u0080\u0080\u00f4\u008f\u00bf\u00bf\"");
        Check.promise(9, "no longer forms");
        faults("\"|\u00c0\u0080\"", "\"|\u00c0\u00af\"", "\"|\u00c1\u00bf\"", "\"\u00e0|\u0080\u0080\"", "\"\u00e0|\u009f\u00bf\"", "\"\u00f0|\u0080\u0080\u0080\"", "\"\u00f0|\u008f\u00bf\u00bf\"");
        Check.promise(9, "no surrogates");
        right("\"\u00ed\u009f\u00bf\u00ee\u0080\u0080\"");
        faults("\"\u00ed|\u00a0\u0080\"", "\"\u00ed|\u00bf\u00bf\"", "\"\u00ed|\u00af\u00bf\u00ed\u00b0\u0080\"");
        Check.promise(9, "none above 10FFFF");
        faults("\"\u00f4|\u0090\u0080\u0080\"", "\"|\u00f5\u0080\u0080\u0080\"", "\"|\u00f8\u0088\u0080\u0080\u0080\"", "\"|\u00fe\"", "\"|\u00ff\"");
        Check.promise(9, "bytes that follow are 80 .. BF, as many as must");
        faults("\"|\u0080\"", "\"|\u00bf\"", "\"\u00c2|\u007f\"", "\"\u00c2|\u00c0\"", "\"\u00c2|\"", "\"\u00e1|\u007f\"", "\"\u00e1|\u00c0\"", "\"\u00e1\u0080|\u007f\"", "\"\u00e1\u00bf|\u00c0\"", "\"\u00e1\u0080|\"");
        faults("\"\u00f1|\u007f\"", "\"\u00f1|\u00c0\"", "\"\u00f3\u0080|\u007f\"", "\"\u00f1\u0080|\u00c0\"", "\"\u00f1\u0080\u0080|\u007f\"", "\"\u00f1\u0080\u0080|\u00c0\"", "\"\u00f1\u0080\u0080|\"");
        faults("[\"\u00c2|]", "[\"\u00c2|,1]", "[\"\u00e1\u0080| ]", "{\"a\":\"\u00f1|}", "[\"\\|]", "[\"\\u|]", "[\"\\ud800|]", "[\"\n]".replace("\n", "|\n"));
        right("\"\u00e1\u0080\u0080\u00ec\u00bf\u00bf\"", "\"\u00f1\u0080\u0080\u0080\u00f3\u00bf\u00bf\u00bf\"");
    }

    private static void escapes() {
        Check.promise(9, "an escape by u and four hexadecimal digits of either case");
        right("\"\\u0000\"", "\"\\uabcf\\uABCF\\u09aF\"", "\"\\\"\\\\\\/\\b\\f\\n\\r\\t\"");
        for (String before : new String[] {"", "0", "00", "000"}) {
            for (char c : "/:@G`g \"-".toCharArray()) {
                fault("\"\\u" + before + "|" + c);
            }
        }
        for (char c : "aUvxe0'?N ".toCharArray()) {
            fault("\"\\|" + c + "\"");
        }
    }

    private static void surrogates() {
        Check.promise(9, "an escape of a high surrogate stands just before one of a low one, and only so");
        right("\"\\ud800\\udc00\"", "\"\\udbff\\udfff\"", "\"\\uD800\\uDFFF\"", "\"\\uDBFF\\udc00\"", "\"\\ud7ff\\ue000\"");
        faults("\"\\ud800|\"", "\"\\udbff|a\"", "\"\\ud800|\u00c2\u0080\"", "\"\\ud800\\|n\"", "\"\\ud800\\|\\\"", "\"\\ud800\\u|0041\"", "\"\\ud800\\u|c\"", "\"\\ud800\\u|e000\"");
        faults("\"\\ud800\\ud|bff\"", "\"\\ud800\\ud|800\\udc00\"", "\"\\ud|c00\"", "\"\\ud|fff\"", "\"\\uD|C00\\uD800\"", "\"\\ud800\\udc00\\ud|c00\"", "{\"\\ud|c00\":1}", "{\"\\ud800|\":1}");
        Check.promise(9, "what a string says are UTF-8 bytes");
        said("\"\\\"\\\\\\/\\b\\f\\n\\r\\t\"", '"', '\\', '/', 8, 12, 10, 13, 9);
        said("\"\\ud800\\udc00\"", 0xf0, 0x90, 0x80, 0x80);
        said("\"\\udbff\\udfff\"", 0xf4, 0x8f, 0xbf, 0xbf);
        said("\"\\u007f\\u0080\"", 0x7f, 0xc2, 0x80);
        said("\"\\u07ff\\u0800\"", 0xdf, 0xbf, 0xe0, 0xa0, 0x80);
        said("\"\\uffff\\u0000\"", 0xef, 0xbf, 0xbf, 0);
    }

    private static void said(String text, int... due) {
        House h = new House().put(0, text);
        h.x.json(0);
        Check.same("text of " + text, h.x.text(0), due.length);
        for (int i = 0; i < due.length; i++) {
            Check.same("byte " + i + " that " + text + " says", h.x.out(i), due[i]);
        }
    }

    private static void endsTooEarly() {
        Check.promise(9, "FAULT: its length, if it ends too early");
        String text = "[ -1.5e+2 , {\"\\u0041\\ud800\\udc00\u00f0\u0090\u0080\u0080\\n\" : [ true , null ] } , false ]";
        for (int many = 0; many < text.length(); many++) {
            json(text.substring(0, many), -100 - many);
        }
        json(text, 7);
        Check.promise(9, "FAULT: the place of the first byte with which no text goes on");
        faults("[|,", "[1|;", "[1,|,", "[1,|]", "{|,", "{|a", "{\"a\"|,", "{\"a\"|1", "{\"a\":|,", "{\"a\":|:", "{\"a\":1|:", "{\"a\":1|]", "{\"a\":1,|}", "{\"a\":1,|1", "[1|}", "[|}", "{|]", "[1]|]", "{}|}");
    }

    private static void brackets() {
        Check.promise(9, "the 41st bracket, [ or {, that is open");
        json("[".repeat(40) + "]".repeat(40), 40);
        json("[".repeat(41) + "]".repeat(41), -140);
        json("{\"\":".repeat(40) + "0" + "}".repeat(40), 41);
        json("{\"\":".repeat(39) + "{}" + "}".repeat(39), 40);
        json("{\"\":".repeat(40) + "{}" + "}".repeat(40), -100 - 160);
        json("[{\"\":".repeat(20) + "0" + "}]".repeat(20), 41);
        json("[{\"\":".repeat(20) + "[", -100 - 100);
        json("[{\"\":".repeat(20) + "{", -100 - 100);
        Check.promise(9, "a bracket that was closed is not open");
        json("[" + ("[".repeat(39) + "]".repeat(39) + ",").repeat(3) + "[".repeat(39) + "]".repeat(40), 157);
        json("[" + ("[".repeat(39) + "]".repeat(39) + ",").repeat(3) + "[".repeat(40), -100 - 1 - 79 * 3 - 39);
        json("[" + "[],".repeat(100) + "{}]", 102);
        Check.promise(9, "brackets of a text before are not open");
        House h = House.lived().put(1, "[[{\"a\":[").put(2, "[".repeat(40) + "]".repeat(40)).put(3, "[".repeat(41));
        for (int turn = 0; turn < 3; turn++) {
            Check.same("json of open ones", h.x.json(1), -108);
            Check.same("json of 40", h.x.json(2), 40);
            Check.same("json of 41", h.x.json(3), -140);
            Check.same("json of 40", h.x.json(2), 40);
        }
        Check.promise(9, "brackets in strings are none");
        json("[\"" + "[{".repeat(60) + "\"]", 2);
    }

    private static void values() {
        Check.promise(9, "a 601st value (at its first byte)");
        json("[" + "0,".repeat(598) + "0]", 600);
        json("[" + "0,".repeat(599) + "0]", -100 - 1199);
        for (String last : new String[] {"null", "true", "false", "-1", "\"x\"", "[]", "{}", "nix", "\"\n\""}) {
            json("[" + "0,".repeat(599) + " \t" + last + "]", -100 - 1201);
        }
        json("[" + "0,".repeat(598) + "{}]", 600);
        json("[" + "0,".repeat(598) + "{\"a\":1}]", -100 - 1202);
        json("[" + "0,".repeat(598) + "[[]]]", -100 - 1198);
        Check.promise(9, "a full count that has no 601st value");
        json("[" + "0,".repeat(599) + "]", -100 - 1199);
        json("[" + "0,".repeat(598) + "0,", -100 - 1199);
        json("[" + "0,".repeat(598) + "0 0", -100 - 1199);
    }

    private static void names() {
        Check.promise(9, "a name that an earlier member of the same object has, by what both say");
        faults("{\"a\":1,|\"a\":2}", "{\"\":1,|\"\":2}", "{\"a\":1,\"b\":2, |\"a\":3}", "{\"a\":1,\"b\":{\"a\":1,|\"a\":2}}", "{\"a\":{\"b\":1},|\"a\":1}", "{\"a\":[],\"b\":1,|\"b\":1}");
        faults("{\"a\":1,|\"\\u0061\":2}", "{\"\\u000a\":1,|\"\\n\":2}", "{\"\\/\":1,|\"/\":2}", "{\"\u00c2\u0080\":1,|\"\\u0080\":2}", "{\"\\uD800\\uDC00\":1,|\"\u00f0\u0090\u0080\u0080\":2}");
        Check.promise(9, "names that are not the same");
        json("{\"a\":1,\"A\":2,\"\":3,\"aa\":4,\"a \":5,\"\\u0000\":6,\"\\\\u0061\":7}", 8);
        json("{\"a\":{\"a\":{\"a\":1}},\"b\":[{\"a\":1},{\"a\":2}]}", 9);
        json("[{\"a\":1},{\"a\":1}]", 5);
        Check.promise(9, "a name is asked when its last quotation mark is read");
        faults("{\"a\":1,\"a|", "{\"a\":1,\"a|\n\"", "{\"a\":1,\"a\\|x\"", "{\"a\":1,|\"a\"", "{\"a\":1,|\"a\"x", "{\"a\":1,|\"a\":x}");
    }

    private static void firstThatIsMet() {
        Check.promise(9, "the first that is met as it is read");
        faults("{\"a\":1,|\"a\":" + "[".repeat(41), "[1|;" + "[".repeat(41), "{\"a\":[|;],\"a\":1}");
        json("[" + "0,".repeat(558) + "[".repeat(41), -100 - 1156);
        json("[" + "0,".repeat(560) + "[".repeat(40), -100 - 1121 - 39);
        json("[" + "0,".repeat(590) + "[".repeat(40), -100 - 1181 - 9);
        StringBuilder members = new StringBuilder("{");
        for (int i = 0; i < 599; i++) {
            members.append('"').append(i).append("\":0,");
        }
        json(members + "\"7\":0}", -100 - members.length());
        json(members + "\"x\":0}", -100 - members.length() - 4);
        json(members + "\"x\"0}", -100 - members.length() - 3);
        json(members.substring(0, members.length() - 1) + "}", 600);
    }

    private static void atHand() {
        Check.promise(9, "which is at hand then");
        House h = new House().put(0, "[1,2]").put(1, "[1,2").put(2, "{\"x\":\"y\"}");
        Check.same("json", h.x.json(0), 3);
        Check.promise(9, "what was at hand stays");
        Check.same("json of a faulty one", h.x.json(1), -104);
        Check.same("values", h.x.value(2, 0), 3);
        Check.same("and no more", h.x.value(3, 0), House.BAD);
        h.x.poke(0, 1, 8);
        h.put(0, "");
        Check.same("the row is no part of it", h.x.write(0), 5);
        Check.that("the row is no part of it", h.outText().equals("[1,2]"));
        Check.promise(9, "another takes its place");
        Check.same("json", h.x.json(2), 2);
        Check.same("values", h.x.value(2, 0), House.BAD);
        Check.same("an empty row has no value", h.x.json(0), -100);
        Check.same("values", h.x.value(1, 0), 4);
        Check.promise(9, "BAD");
        for (int r : NO_ROWS) {
            Check.refused(h, "json of row " + r, () -> h.x.json(r), House.BAD);
        }
        Check.same("row 7", new House().put(7, "1").x.json(7), 1);
    }

    private static void value() {
        Check.promise(10, "what = 0 .. 4 of each kind");
        House h = House.lived().put(1, " [null,false , true,-1.50e2,\"\",\"\\u00e9x\",[],{},[1,[2]],{\"a\":3,\"b\":{\"c\":4}}]");
        Check.same("json", h.x.json(1), 17);
        int[][] due = {{5, 10, -1, 0, 1}, {0, 0, 0, 0, 2}, {1, 0, 0, 1, 7}, {2, 0, 0, 2, 15}, {3, 7, 0, 3, 20}, {4, 0, 0, 4, 28}, {4, 3, 0, 5, 31}, {5, 0, 0, 6, 41}, {6, 0, 0, 7, 44},
            {5, 2, 0, 8, 47}, {3, 1, 9, 0, 48}, {5, 1, 9, 1, 50}, {3, 1, 11, 0, 51}, {6, 2, 0, 9, 55}, {3, 1, 13, 0, 60}, {6, 1, 13, 1, 66}, {3, 1, 15, 0, 71}};
        for (int i = 0; i < due.length; i++) {
            for (int what = 0; what < 5; what++) {
                Check.same("value of " + i + ", " + what, h.x.value(i, what), due[i][what]);
            }
        }
        Check.promise(10, "BAD: no such value");
        for (int i : new int[] {-1, 17, 18, 600, Integer.MIN_VALUE, Integer.MAX_VALUE}) {
            Check.refused(h, "value of " + i, () -> h.x.value(i, 0), House.BAD);
        }
        Check.promise(10, "BAD: no such what");
        for (int what : new int[] {-1, 5, 6, Integer.MIN_VALUE, Integer.MAX_VALUE}) {
            Check.refused(h, "what = " + what, () -> h.x.value(0, what), House.BAD);
        }
        Check.promise(10, "BAD: also none is");
        House none = new House();
        for (int what = 0; what < 5; what++) {
            Check.same("what = " + what, none.x.value(0, what), House.BAD);
        }
        Check.promise(10, "600 values");
        none.put(0, "[" + "0,".repeat(598) + "7]");
        none.x.json(0);
        Check.same("the last one's place", none.x.value(599, 3), 598);
        Check.same("the last one's beginning", none.x.value(599, 4), 1197);
        Check.same("no 601st", none.x.value(600, 3), House.BAD);
        Check.same("elements", none.x.value(0, 1), 599);
    }

    private static void text() {
        Check.promise(11, "what a string says, or a number's bytes, come to OUT");
        House h = House.lived().put(1, "[\"\",\"\\u0000\",-0.10E+2,null,true,false,[],{\"a\":1}]");
        h.x.json(1);
        Check.same("an empty string", h.x.text(1), 0);
        Check.same("OUT", h.x.size(-1), 0);
        Check.same("a byte 0", h.x.text(2), 1);
        Check.same("OUT", h.x.out(0), 0);
        Check.same("a number", h.x.text(3), 8);
        Check.that("its bytes as they stood", h.outText().equals("-0.10E+2"));
        Check.promise(11, "BAD: it is neither");
        h.mark();
        for (int i : new int[] {0, 4, 5, 6, 7, 8, -1, 10, 600, Integer.MIN_VALUE, Integer.MAX_VALUE}) {
            Check.refused(h, "text of " + i, () -> h.x.text(i), House.BAD);
        }
        Check.same("the last value", h.x.text(9), 1);
        Check.promise(11, "the longest string, and number");
        House full = new House().put(0, "\"" + "x".repeat(8190) + "\"");
        full.x.json(0);
        Check.same("text", full.x.text(0), 8190);
        full.put(0, "1".repeat(8192));
        full.x.json(0);
        Check.same("text", full.x.text(0), 8192);
        Check.same("its bytes", full.x.value(0, 1), 8192);
    }

    private static void name() {
        Check.promise(12, "what the name of a member says comes to OUT");
        House h = House.lived().put(1, "{\"\":[1],\"\\u0041\\n\":{\"b\":2}}");
        h.x.json(1);
        Check.same("an empty name", h.x.name(1), 0);
        Check.same("OUT", h.x.size(-1), 0);
        Check.same("a name", h.x.name(3), 2);
        Check.that("what it says", h.outText().equals("A\n"));
        Check.same("the last value", h.x.name(4), 1);
        Check.promise(12, "BAD: it is in no object");
        h.mark();
        for (int i : new int[] {0, 2, -1, 5, 600, Integer.MIN_VALUE, Integer.MAX_VALUE}) {
            Check.refused(h, "name of " + i, () -> h.x.name(i), House.BAD);
        }
        Check.promise(12, "the longest name");
        House full = new House().put(0, "{\"" + "x".repeat(8186) + "\":1}");
        full.x.json(0);
        Check.same("name", full.x.name(1), 8186);
    }

    private static void member() {
        Check.promise(13, "the member of an object whose name says what a row has");
        House h = House.lived().put(1, "{\"\":{\"in\":1},\"\\u0041\":2,\"Ab\":[3],\"last\":{}}");
        h.x.json(1);
        Object[][] due = {{"", 1}, {"A", 3}, {"Ab", 4}, {"last", 6}};
        for (Object[] d : due) {
            Check.same("member " + d[0], h.put(2, (String) d[0]).x.member(0, 2), (Integer) d[1]);
        }
        Check.promise(13, "NONE");
        for (String name : new String[] {"a", "\\u0041", "in", "A\0", "las", "lastx", "\0"}) {
            h.put(2, name);
            Check.refused(h, "member " + name, () -> h.x.member(0, 2), House.NONE);
        }
        h.put(2, "");
        Check.refused(h, "of an object without members", () -> h.x.member(6, 2), House.NONE);
        Check.promise(13, "only its own members");
        Check.same("member of the inner one", h.put(2, "in").x.member(1, 2), 2);
        Check.promise(13, "BAD: it is no object");
        for (int i : new int[] {2, 3, 4, 5, -1, 7, 600, Integer.MIN_VALUE, Integer.MAX_VALUE}) {
            Check.refused(h, "member of " + i, () -> h.x.member(i, 2), House.BAD);
        }
        Check.promise(13, "BAD: no such row");
        for (int r : NO_ROWS) {
            Check.refused(h, "member by row " + r, () -> h.x.member(0, r), House.BAD);
        }
        Check.promise(13, "a row as long as a row can be");
        h.put(2, "A".repeat(8192));
        Check.refused(h, "member", () -> h.x.member(0, 2), House.NONE);
        House full = new House().put(0, "{\"" + "x".repeat(8186) + "\":1}").put(1, "x".repeat(8186));
        full.x.json(0);
        Check.same("member", full.x.member(0, 1), 1);
        full.x.poke(1, 8185, 1);
        Check.same("but for its last byte", full.x.member(0, 1), House.NONE);
    }

    private static void written(String text, String due) {
        House h = new House().put(0, text);
        Check.that("json " + text, h.x.json(0) > 0);
        Check.same("write " + text, h.x.write(0), due.length());
        Check.that("written is " + h.outText() + ", due is " + due, h.outText().equals(due));
    }

    private static void write() {
        Check.promise(14, "without blanks, members and elements in their order");
        written(" { \"b\" : [ 1 , [ ] , { } ] ,\t\"a\" : null\r\n} ", "{\"b\":[1,[],{}],\"a\":null}");
        written("[ ]", "[]");
        written(" true ", "true");
        written("[false, null]", "[false,null]");
        written("{ }", "{}");
        Check.promise(14, "a value inside of others is written alone");
        House inner = new House().put(0, "[ 1 , [ 2 , { \"a\" : [ 3 ] } ] , { } , \"x\" ]");
        inner.x.json(0);
        String[] values = {"[1,[2,{\"a\":[3]}],{},\"x\"]", "1", "[2,{\"a\":[3]}]", "2", "{\"a\":[3]}", "[3]", "3", "{}", "\"x\""};
        for (int i = 0; i < values.length; i++) {
            Check.same("write of " + i, inner.x.write(i), values[i].length());
            Check.that("written is " + inner.outText(), inner.outText().equals(values[i]));
        }
        Check.promise(14, "numbers as they stood");
        written("[-0,0.00,1E+05,10e-0]", "[-0,0.00,1E+05,10e-0]");
        Check.promise(14, "strings with \\\" \\\\ \\b \\f \\n \\r \\t");
        written("\"\\u0022\\u005C\\u0008\\u000c\\u000A\\u000D\\u0009\"", "\"\\\"\\\\\\b\\f\\n\\r\\t\"");
        Check.promise(14, "others below 32 with u00 and two digits (a .. f)");
        StringBuilder low = new StringBuilder();
        StringBuilder due = new StringBuilder();
        String shorts = "\b\f\n\r\t";
        for (int c = 0; c < 32; c++) {
            low.append(String.format("\\u%04X", c));
            due.append(shorts.indexOf(c) >= 0 ? "\\" + "bfnrt".charAt(shorts.indexOf(c)) : String.format("\\u%04x", c));
        }
        written("\"" + low + "\"", "\"" + due + "\"");
        written("{\"" + low + "\":0}", "{\"" + due + "\":0}");
        Check.promise(14, "all else as it is");
        written("\"\\u0020\\/'\\u007F\\u0080\\uFFFF\\ud83d\\ude00\"", "\" /'\u007f\u00c2\u0080\u00ef\u00bf\u00bf\u00f0\u009f\u0098\u0080\"");
        Check.promise(14, "a text that fills a row; what is written is never longer than what was read");
        written("\"" + "\\u0001".repeat(1365) + "\"", "\"" + "\\u0001".repeat(1365) + "\"");
        written("[" + "\"" + "\\n".repeat(4094) + "\"]", "[" + "\"" + "\\n".repeat(4094) + "\"]");
        written("1".repeat(8192), "1".repeat(8192));
        Check.promise(14, "BAD");
        House h = House.lived();
        for (int i : new int[] {-1, 4, 600, Integer.MIN_VALUE, Integer.MAX_VALUE}) {
            Check.refused(h, "write of " + i, () -> h.x.write(i), House.BAD);
        }
        Check.same("write of the last", h.x.write(3), 7);
    }

    private static void encode() {
        Check.promise(15, "a row as letters, without = behind");
        String[][] due = {{"", ""}, {"\0", "AA"}, {"\u00ff", "_w"}, {"\u00ff\u00ff", "__8"}, {"\u00ff\u00ff\u00ff", "____"}, {"\u00fb\u00ef\u00be", "----"}, {"\0\0\0\0", "AAAAAA"}, {"i\u00b7\u001dy\u00f8!\u008a9", "abcdefghijk"}};
        for (String[] d : due) {
            House h = new House().mark().put(1, d[0]);
            Check.same("encode for " + d[1], h.x.encode(1), d[1].length());
            Check.that("letters are " + h.outText() + ", due are " + d[1], h.outText().equals(d[1]));
        }
        Check.promise(15, "LARGE: OUT would have more than 8192 bytes");
        for (int many : new int[] {6142, 6143, 6144}) {
            House h = House.lived().put(1, new byte[many]);
            Check.same("encode of " + many, h.x.encode(1), House.letters(new byte[many]).length());
        }
        for (int many : new int[] {6145, 6146, 8191, 8192}) {
            House h = House.lived().put(1, new byte[many]);
            Check.refused(h, "encode of " + many, () -> h.x.encode(1), House.LARGE);
        }
        Check.promise(15, "BAD");
        House h = House.lived();
        for (int r : NO_ROWS) {
            Check.refused(h, "encode of row " + r, () -> h.x.encode(r), House.BAD);
        }
    }

    private static void undecoded(String letters, int place) {
        House h = House.lived().put(1, letters);
        Check.refused(h, "decode " + (letters.length() > 20 ? letters.length() + " letters" : letters), () -> h.x.decode(1), -100 - place);
    }

    private static void decode() {
        Check.promise(16, "what letters in a row stand for");
        Object[][] due = {{"", new byte[0]}, {"AA", new byte[1]}, {"_w", new byte[] {-1}}, {"AAA", new byte[2]}, {"__8", new byte[] {-1, -1}}, {"AZaz", House.hex("0196b3")}, {"09-_", House.hex("d3dfbf")}};
        for (Object[] d : due) {
            House h = House.lived().put(1, (String) d[0]);
            Check.same("decode " + d[0], h.x.decode(1), ((byte[]) d[1]).length);
            Check.same("OUT of " + d[0], h.out(), (byte[]) d[1]);
        }
        Check.promise(16, "the place of the first byte that is none of them");
        for (char c : "@[`{/:,.^+= \0\n\u007f\u0080\u00c1\u00ff".toCharArray()) {
            undecoded(c + "AAA", 0);
            undecoded("AAA" + c, 3);
            undecoded("AA" + c + c, 2);
        }
        Check.promise(16, "else, if 1 is left over of four, how many there are");
        undecoded("A", 1);
        undecoded("AAAAA", 5);
        undecoded("A".repeat(8189), 8189);
        Check.promise(16, "else, if bits that are left over are not 0, the place of the last one");
        for (char c : "BCEIPRfhv-_".toCharArray()) {
            undecoded("A" + c, 1);
            undecoded("AAAAA" + c, 5);
        }
        for (char c : "BCDFGHJ_".toCharArray()) {
            undecoded("AA" + c, 2);
            undecoded("AAAAAA" + c, 6);
        }
        for (String right : new String[] {"AQ", "Ag", "Aw", "AAE", "AAI", "AAM", "AA8", "AAAB", "AAA_"}) {
            Check.same("decode " + right, new House().put(0, right).x.decode(0), right.length() * 3 / 4);
        }
        Check.promise(16, "the first of these faults, where two fit at once");
        undecoded("=", 0);
        undecoded("AAAA=", 4);
        undecoded("=B", 0);
        undecoded("B=", 1);
        undecoded("AA=B", 2);
        undecoded("AAB=AB", 3);
        undecoded("B", 1);
        undecoded("BBBBB", 5);
        Check.promise(16, "a full row");
        undecoded("A".repeat(8191) + "=", 8191);
        undecoded("A".repeat(8190) + "B", 8190);
        Check.same("8192 letters", new House().put(0, "A".repeat(8192)).x.decode(0), 6144);
        Check.promise(16, "BAD");
        House h = House.lived();
        for (int r : NO_ROWS) {
            Check.refused(h, "decode of row " + r, () -> h.x.decode(r), House.BAD);
        }
        for (int r : new int[] {0, 7}) {
            Check.same("decode of row " + r, new House().put(r, "AA").x.decode(r), 1);
        }
    }
}
