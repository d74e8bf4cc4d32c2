import java.io.ByteArrayOutputStream;

/** Promises 9 and 10: documents are read, or their FAULTS told. */
public final class DocumentTest {
    private static final int NONE = CanonPress.NONE;
    private static final Bench bench = new Bench();

    public static void main(String[] args) {
        readsGood();
        tellsBadBytes();
        tellsBadStrings();
        tellsBadUtf8();
        tellsEndless();
        tellsSecondNames();
        tellsTooDeep();
        tellsTooMany();
        keepsItsPlace();
        Bench.close("DocumentTest");
    }

    private static void faults(byte[] text, int fault, int place) {
        bench.lay(text);
        String call = "document() of " + new String(text, java.nio.charset.StandardCharsets.ISO_8859_1);
        Bench.due(call, bench.press.document(5), fault);
        Bench.due("place() behind " + call, bench.press.place(), place);
        Bench.due("the tape is empty", bench.press.about(0), 0);
    }

    private static void faults(String text, int fault, int place) {
        faults(Bench.utf8(text), fault, place);
    }

    private static void good(String text, String form) {
        faults(text, 0, NONE);
        Bench.due("form of " + text, bench.formOf(5), form);
    }

    private static void readsGood() {
        good("null", "null");
        good(" \t\r\n true \t\r\n ", "true");
        good("false", "false");
        good("-0", "0");
        good("-1.50e+2", "-150");
        good("\"\"", "\"\"");
        good("[]", "[]");
        good("{}", "{}");
        good("[ ]", "[]");
        good("{ }", "{}");
        good("[ 1 , [ ] , { } , \"a\" ]", "[1,[],{},\"a\"]");
        good("{ \"b\" : 1 , \"a\" : [ null ] }", "{\"a\":[null],\"b\":1}");
        good("\"\\\"\\\\\\/\\b\\f\\n\\r\\t\"", "\"\\\"\\\\/\\b\\f\\n\\r\\t\"");
        good("\"\\u0041\\u00e9\\u00E9\\u20ac\\ud83d\\ude00\"", "\"A\u00e9\u00e9\u20ac\ud83d\ude00\"");
        good("\"\u007f\u0080\u07ff\u0800\ud7ff\ue000\uffff\ud800\udc00\udbff\udfff\"",
                "\"\u007f\u0080\u07ff\u0800\ud7ff\ue000\uffff\ud800\udc00\udbff\udfff\"");
        good("\"\\uD7FF\\uE000\\uDBFF\\uDFFF\\uD800\\uDC00\"", "\"\ud7ff\ue000\udbff\udfff\ud800\udc00\"");
        good("[".repeat(30) + "]".repeat(30), "[".repeat(30) + "]".repeat(30));
        good(" ".repeat(1999) + "7", "7");
        good("\"" + "x".repeat(1998) + "\"", "\"" + "x".repeat(1998) + "\"");
        good("[" + "1,".repeat(498) + "1]", "[" + "1,".repeat(498) + "1]");
    }

    private static void tellsBadBytes() {
        faults("", 1, 0);
        faults("   ", 1, 3);
        faults("x", 1, 0);
        faults("nul", 1, 3);
        faults("nulx", 1, 3);
        faults("nULL", 1, 1);
        faults("truE", 1, 3);
        faults("fals ", 1, 4);
        faults("nullx", 1, 4);
        faults("null x", 1, 5);
        faults("1 2", 1, 2);
        faults("[1 2]", 1, 3);
        faults("[1,]", 1, 3);
        faults("[,1]", 1, 1);
        faults("[", 1, 1);
        faults("[1", 1, 2);
        faults("[1,", 1, 3);
        faults("]", 1, 0);
        faults("[1}", 1, 2);
        faults("[}", 1, 1);
        faults("{]", 1, 1);
        faults("{1:2}", 1, 1);
        faults("{\"a\"}", 1, 4);
        faults("{\"a\" 1}", 1, 5);
        faults("{\"a\":}", 1, 5);
        faults("{\"a\":1]", 1, 6);
        faults("{\"a\":1,}", 1, 7);
        faults("{\"a\":1 \"b\":2}", 1, 7);
        faults("{,}", 1, 1);
        faults("{\"a\"", 1, 4);
        faults("{\"a\":", 1, 5);
        faults("{\"a\":1", 1, 6);
        faults("{\"a\":1,", 1, 7);
        faults("{}}", 1, 2);
        faults("[]]", 1, 2);
        faults("01", 1, 1);
        faults("-01", 1, 2);
        faults("-", 1, 1);
        faults("-x", 1, 1);
        faults("+1", 1, 0);
        faults(".5", 1, 0);
        faults("1.", 1, 2);
        faults("[1.]", 1, 3);
        faults("1.x", 1, 2);
        faults("1e", 1, 2);
        faults("1e+", 1, 3);
        faults("1e+x", 1, 3);
        faults("1x", 1, 1);
        faults("1.5.5", 1, 3);
        faults("\f1", 1, 0);
        faults("1\u000b", 1, 1);
        faults("1\u0000", 1, 1);
        faults("\ufeff1", 1, 0);
        faults("\u00a01", 1, 0);
        faults("'a'", 1, 0);
        faults("/**/1", 1, 0);
        faults("NaN", 1, 0);
        faults("Infinity", 1, 0);
        faults("[1,2", 1, 4);
    }

    private static void tellsBadStrings() {
        faults("\"", 1, 1);
        faults("\"abc", 1, 4);
        faults("\"a\nb\"", 1, 2);
        faults("\"\u0000\"", 1, 1);
        faults("\"\u001f\"", 1, 1);
        faults("\"\\", 1, 2);
        faults("\"\\x\"", 1, 2);
        faults("\"\\U0041\"", 1, 2);
        faults("\"\\'\"", 1, 2);
        faults("\"\\\u0000\"", 1, 2);
        faults("\"\\u", 1, 3);
        faults("\"\\u00g0\"", 1, 5);
        faults("\"\\u004\"", 1, 6);
        faults("\"\\u004", 1, 6);
        faults("\"\\uDC00\"", 1, 6);
        faults("\"\\udfff", 1, 6);
        faults("\"ab\\uDEADx\"", 1, 8);
        faults("\"\\uD800\"", 1, 7);
        faults("\"\\uD800", 1, 7);
        faults("\"\\uD800x\"", 1, 7);
        faults("\"\\uD800\\n\"", 1, 8);
        faults("\"\\uD800\\", 1, 8);
        faults("\"\\uD800\\u", 1, 9);
        faults("\"\\uD800\\u0041\"", 1, 12);
        faults("\"\\uD800\\uD800\"", 1, 12);
        faults("\"\\uD800\\uE000\"", 1, 12);
        faults("\"\\uDBFF\\uDBFF\\uDC00\"", 1, 12);
        faults("\"\\uD800\\u00x1\"", 1, 11);
        faults("{\"\\uD800\":1}", 1, 8);
        faults("{\"a", 1, 3);
        faults("\"\\uD83D\ude00\"", 1, 7);
    }

    private static byte[] quoted(int... bytes) {
        ByteArrayOutputStream text = new ByteArrayOutputStream();
        text.write('"');
        for (int b : bytes) {
            text.write(b);
        }
        text.write('"');
        return text.toByteArray();
    }

    private static void tellsBadUtf8() {
        faults(quoted(0x80), 1, 1);
        faults(quoted(0xBF), 1, 1);
        faults(quoted(0xC0, 0x80), 1, 1);
        faults(quoted(0xC1, 0xBF), 1, 1);
        faults(quoted(0xC2), 1, 2);
        faults(quoted(0xC2, 0x7F), 1, 2);
        faults(quoted(0xC2, 0xC0), 1, 2);
        faults(quoted(0xC2, 0x80), 0, NONE);
        faults(quoted(0xE0, 0x9F, 0xBF), 1, 2);
        faults(quoted(0xE0, 0xA0, 0x80), 0, NONE);
        faults(quoted(0xE1, 0x80), 1, 3);
        faults(quoted(0xE1, 0x80, 0xC0), 1, 3);
        faults(quoted(0xED, 0xA0, 0x80), 1, 2);
        faults(quoted(0xED, 0x9F, 0xBF), 0, NONE);
        faults(quoted(0xEE, 0x80, 0x80), 0, NONE);
        faults(quoted(0xEF, 0xBF, 0xBF), 0, NONE);
        faults(quoted(0xF0, 0x8F, 0xBF, 0xBF), 1, 2);
        faults(quoted(0xF0, 0x90, 0x80, 0x80), 0, NONE);
        faults(quoted(0xF4, 0x8F, 0xBF, 0xBF), 0, NONE);
        faults(quoted(0xF4, 0x90, 0x80, 0x80), 1, 2);
        faults(quoted(0xF5, 0x80, 0x80, 0x80), 1, 1);
        faults(quoted(0xFF), 1, 1);
        faults(quoted(0xF1, 0x80, 0x80), 1, 4);
        faults(quoted(0xF1, 0x80, 0x80, 0x7F), 1, 4);
        faults(quoted(0xF1, 0x80, 0xC0, 0x80), 1, 3);
        faults(new byte[] {'"', (byte) 0xE2, (byte) 0x82}, 1, 3);
        faults(new byte[] {(byte) 0xC3, (byte) 0xA9}, 1, 0);
    }

    private static void tellsEndless() {
        faults("1e309", 2, 0);
        faults("-1e309", 2, 0);
        faults("[1, 1e400 ]", 2, 4);
        faults("{\"a\":1e400}", 2, 5);
        faults("1e999x", 2, 0);
        faults("[1e999 2]", 2, 1);
        faults("1e999.5", 2, 0);
        faults("1e", 1, 2);
        faults("[1e999", 2, 1);
        faults("179769313486231580793728971405303415079934132710037826936173778980444968292764750946649017977"
                + "5872079584320864103676".repeat(12), 2, 0);
        good("1.7976931348623157e308", "1.7976931348623157e+308");
        good("1e-999", "0");
    }

    private static void tellsSecondNames() {
        faults("{\"a\":1,\"a\":2}", 3, 7);
        faults("{\"a\":1, \"\\u0061\" :2}", 3, 8);
        faults("{\"a\":1,\"a\"x", 3, 7);
        faults("{\"a\":1,\"a", 1, 9);
        faults("{\"\":1,\"\":2}", 3, 6);
        faults("{\"a\":{\"a\":1,\"b\":2},\"b\":{\"b\":1,\"a\":1,\"b\":3}}", 3, 36);
        faults("{\"c\":1,\"a\":1,\"b\":1,\"c\":1}", 3, 19);
        faults("{\"c\":1,\"a\":1,\"b\":1,\"a\":1}", 3, 19);
        faults("{\"c\":1,\"a\":1,\"b\":1,\"b\":1}", 3, 19);
        faults("{\"\ud83d\ude00\":1,\"\\ud83d\\ude00\":1}", 3, 10);
        good("{\"a\":{\"a\":1},\"A\":[{\"a\":1},{\"a\":1}]}", "{\"A\":[{\"a\":1},{\"a\":1}],\"a\":{\"a\":1}}");
    }

    private static void tellsTooDeep() {
        faults("[".repeat(31), 4, 30);
        faults("[".repeat(30) + "{", 4, 30);
        faults("[".repeat(30), 1, 30);
        faults("{\"a\":".repeat(30) + "[", 4, 150);
        faults("{\"a\":".repeat(30) + "1", 1, 151);
        faults("{\"a\":".repeat(30) + "\"", 1, 151);
        good("{\"a\":".repeat(30) + "1" + "}".repeat(30), "{\"a\":".repeat(30) + "1" + "}".repeat(30));
        faults("[" + "[".repeat(29) + "]".repeat(29) + "," + "[".repeat(29) + "[", 4, 89);
    }

    private static void tellsTooMany() {
        faults("[" + "1,".repeat(499) + "1]", 5, 999);
        faults("[" + "1,".repeat(499) + "]", 1, 999);
        faults("[" + "1,".repeat(499) + "x", 1, 999);
        faults("[" + "1,".repeat(499) + "nulx", 5, 999);
        faults("[" + "1,".repeat(499) + "-", 5, 999);
        faults("[" + "1,".repeat(499) + "\"", 5, 999);
        faults("[" + "1,".repeat(499) + "{", 5, 999);
        faults("[" + "1,".repeat(499) + " 1e999", 5, 1000);
        String deep = "[".repeat(30) + "1,".repeat(470);
        faults(deep + "1", 5, 970);
        faults(deep + "[", 4, 970);
        faults(deep + "{", 4, 970);
        String named = "[" + "1,".repeat(497) + "{\"a\":1,\"";
        faults(named + "b\":1}]", 5, 1006);
        faults(named + "a\":1}]", 3, 1002);
        faults(named + "b\"x", 1, 1005);
    }

    private static void keepsItsPlace() {
        Bench fresh = new Bench();
        CanonPress press = fresh.press;
        fresh.put(2, "[1]");
        Bench.due("place", press.place(), NONE);
        fresh.lay("[1,x]");
        Bench.due("document", press.document(2), 1);
        Bench.due("the shelf stays", fresh.formOf(2), "[1]");
        Bench.due("place", press.place(), 3);
        fresh.lay("[2]");
        for (int shelf : new int[] {-1, 8, Integer.MAX_VALUE, Integer.MIN_VALUE}) {
            Bench.due("document", press.document(shelf), NONE);
        }
        Bench.due("the tape stays", press.about(0), 3);
        Bench.due("place stays", press.place(), 3);
        Bench.due("document", press.document(2), 0);
        Bench.due("place", press.place(), NONE);
        Bench.due("another one came", fresh.formOf(2), "[2]");
        Bench.due("only there", press.about(2), 1);
    }
}
