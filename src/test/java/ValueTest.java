/** Promises 11 to 14 and 16: VALUES on shelves, their form, and whether they are the same. */
public final class ValueTest {
    private static final int NONE = CanonPress.NONE;
    private static final Bench bench = new Bench();
    private static final CanonPress press = bench.press;

    public static void main(String[] args) {
        forms();
        ordersNames();
        formsLong();
        formsParts();
        tellsValues();
        tellsBits();
        tellsCharacters();
        compares();
        Bench.close("ValueTest");
    }

    private static void forms(String text, String due) {
        bench.put(0, text);
        Bench.due("form of " + text, bench.formOf(0), due);
    }

    private static void forms() {
        // The example of RFC 8785, 3.2.2.
        forms("{\"numbers\": [333333333.33333329, 1E30, 4.50, 2e-3, 0.000000000000000000000000001],"
                + "\"string\": \"\\u20ac$\\u000F\\u000aA'\\u0042\\u0022\\u005c\\\\\\\"\\/\","
                + "\"literals\": [null, true, false]}",
                "{\"literals\":[null,true,false],\"numbers\":[333333333.3333333,1e+30,4.5,0.002,1e-27],"
                + "\"string\":\"\u20ac$\\u000f\\nA'B\\\"\\\\\\\\\\\"/\"}");
        StringBuilder text = new StringBuilder("\"");
        StringBuilder due = new StringBuilder("\"");
        String[] brief = {"\\b", "\\t", "\\n", "", "\\f", "\\r"};
        for (int c = 0; c < 32; c++) {
            text.append(String.format("\\u%04X", c));
            boolean two = c >= 8 && c <= 13 && c != 11;
            due.append(two ? brief[c - 8] : String.format("\\u%04x", c));
        }
        forms(text + "\"", due + "\"");
        forms("\"\\u007f\\/\\u0080\\u2028\"", "\"\u007f/\u0080\u2028\"");
        forms("{\"\\u0001\\\"\":\"\"}", "{\"\\u0001\\\"\":\"\"}");
        forms("[[],{},[[]],{\"a\":{}},-0,[1,[2]]]", "[[],{},[[]],{\"a\":{}},0,[1,[2]]]");
    }

    private static void ordersNames() {
        // The example of RFC 8785, 3.2.3.
        forms("{\"\\u20ac\":\"Euro Sign\",\"\\r\":\"Carriage Return\",\"\\ufb33\":\"Hebrew Letter Dalet With "
                + "Dagesh\",\"1\":\"One\",\"\\ud83d\\ude00\":\"Emoji: Grinning Face\",\"\\u0080\":\"Control\","
                + "\"\\u00f6\":\"Latin Small Letter O With Diaeresis\"}",
                "{\"\\r\":\"Carriage Return\",\"1\":\"One\",\"\u0080\":\"Control\",\"\u00f6\":\"Latin Small "
                + "Letter O With Diaeresis\",\"\u20ac\":\"Euro Sign\",\"\ud83d\ude00\":\"Emoji: Grinning Face\","
                + "\"\ufb33\":\"Hebrew Letter Dalet With Dagesh\"}");
        forms("{\"ab\":1,\"a\":2,\"\":3,\"abc\":4,\"b\":5,\"B\":6,\"aa\":7}",
                "{\"\":3,\"B\":6,\"a\":2,\"aa\":7,\"ab\":1,\"abc\":4,\"b\":5}");
        forms("{\"\uffff\":1,\"\ue000\":2,\"\udbff\udfff\":3,\"\ud800\udc00\":4,\"\ud7ff\":5,\"\ud800\udc00a\":6}",
                "{\"\ud7ff\":5,\"\ud800\udc00\":4,\"\ud800\udc00a\":6,\"\udbff\udfff\":3,\"\ue000\":2,\"\uffff\":1}");
        forms("{\"10\":1,\"9\":2,\"1\":3}", "{\"1\":3,\"10\":1,\"9\":2}");
    }

    private static void formsLong() {
        bench.put(0, "{\"a\":\"" + "\\u0001".repeat(300) + "\"}");
        Bench.due("form", press.form(0, 0), 1808);
        bench.put(2, "{\"a\":[" + "9e20,".repeat(330) + "1]}");
        Bench.due("form of long numerals", press.form(2, 0), 9 + 330 * 22);
        bench.put(3, "{\"b\":[" + "8e20,".repeat(160) + "1]}");
        Bench.due("merge", press.merge(2, 3, 4), 1 + 332 + 162);
        int due = 9 + 330 * 22 + 8 + 160 * 22;
        Bench.due("form", press.form(4, 0), due);
        Bench.due("all are kept", press.about(1), due);
        bench.put(6, "{\"c\":\"" + "\\u001f".repeat(250) + "\"}");
        press.merge(4, 6, 7);
        Bench.due("form beyond 12000", press.form(7, 0), due + 7 + 1500);
        Bench.due("the first 12000 are kept", press.about(1), 12000);
        Bench.due("the last of them", press.out(11999) != NONE);
        Bench.due("no more", press.out(12000), NONE);
        bench.lay("5");
        Bench.due("take", press.take(), NONE);
        Bench.due("the tape stays", press.about(0), 1);
        press.end(0);
    }

    private static void formsParts() {
        bench.put(0, "{\"b\":[1,{\"x\":[2]}],\"a\":\"s\",\"c\":{}}");
        String[] due = {"{\"a\":\"s\",\"b\":[1,{\"x\":[2]}],\"c\":{}}", "\"s\"", "[1,{\"x\":[2]}]", "1",
            "{\"x\":[2]}", "[2]", "2", "{}"};
        for (int i = 0; i < due.length; i++) {
            Bench.due("form of part " + i, bench.formOf(0, i), due[i]);
        }
        for (int number : new int[] {8, -1, 499, 500, Integer.MAX_VALUE, Integer.MIN_VALUE}) {
            Bench.due("form", press.form(0, number), NONE);
        }
        Bench.due("OUT stays", bench.outText(), "{}");
        for (int shelf : new int[] {-1, 8, Integer.MAX_VALUE, Integer.MIN_VALUE}) {
            Bench.due("form", press.form(shelf, 0), NONE);
        }
        Bench.due("OUT stays", bench.outText(), "{}");
    }

    private static void tellsValues() {
        bench.put(0, "{\"b\":[null,true,false,[[]]],\"a\":\"s\ud83d\ude00t\",\"c\":{\"y\":-0,\"x\":1}}");
        int[][] due = {
            {6, 3, NONE, 0, 11, 0}, {4, 3, 0, 0, 1, 1}, {5, 4, 0, 1, 6, 1}, {0, 0, 2, 0, 1, 2},
            {2, 0, 2, 1, 1, 2}, {1, 0, 2, 2, 1, 2}, {5, 1, 2, 3, 2, 2}, {5, 0, 6, 0, 1, 3},
            {6, 2, 0, 2, 3, 1}, {3, 0, 8, 0, 1, 2}, {3, 0, 8, 1, 1, 2}};
        for (int number = 0; number < due.length; number++) {
            for (int what = 0; what < 6; what++) {
                Bench.due("value " + number + " what " + what, press.value(0, number, what), due[number][what]);
            }
            Bench.due("what 6", press.value(0, number, 6), NONE);
            Bench.due("what -1", press.value(0, number, -1), NONE);
        }
        for (int what = -1; what <= 6; what++) {
            Bench.due("value", press.value(0, 11, what), NONE);
            Bench.due("value", press.value(0, -1, what), NONE);
            Bench.due("value", press.value(-1, 0, what), NONE);
            Bench.due("value", press.value(8, 0, what), NONE);
            Bench.due("value", press.value(0, Integer.MAX_VALUE, what), NONE);
        }
        bench.put(1, "[".repeat(30) + "]".repeat(30));
        Bench.due("how deep", press.value(1, 29, 5), 29);
        Bench.due("how many", press.value(1, 0, 4), 30);
        bench.put(1, "7");
        Bench.due("nothing is left of what was there", press.value(1, 1, 0), NONE);
    }

    private static void tellsBits() {
        bench.put(0, "[1.5,-0,\"1\",null,0,true,[2],{}]");
        Bench.due("bits", press.bits(0, 0), 0);
        Bench.due("bits", press.bits(0, 1), Double.doubleToLongBits(1.5));
        Bench.due("bits of -0", press.bits(0, 2), Long.MIN_VALUE);
        for (int number = 3; number <= 7; number++) {
            Bench.due("bits", press.bits(0, number), 0);
        }
        Bench.due("bits", press.bits(0, 8), Double.doubleToLongBits(2));
        for (int number : new int[] {9, 10, -1, 500, Integer.MAX_VALUE, Integer.MIN_VALUE}) {
            Bench.due("bits", press.bits(0, number), 0);
        }
        Bench.due("bits", press.bits(8, 1), 0);
        Bench.due("bits", press.bits(-1, 1), 0);
    }

    private static void tellsCharacters() {
        bench.put(0, "{\"na\u20acme\":\"t\\ud83d\\ude00\\n\",\"o\":{\"\":[\"u\"]}}");
        int[] name = {'n', 'a', 0x20AC, 'm', 'e', NONE, NONE};
        int[] text = {'t', 0x1F600, 10, NONE, NONE};
        for (int i = 0; i < name.length; i++) {
            Bench.due("character of a name", press.character(0, 1, 0, i), name[i]);
        }
        for (int i = 0; i < text.length; i++) {
            Bench.due("character of a string", press.character(0, 1, 1, i), text[i]);
        }
        Bench.due("the whole has no name", press.character(0, 0, 0, 0), NONE);
        Bench.due("an object is no string", press.character(0, 0, 1, 0), NONE);
        Bench.due("name", press.character(0, 2, 0, 0), 'o');
        Bench.due("no string", press.character(0, 2, 1, 0), NONE);
        Bench.due("an empty name", press.character(0, 3, 0, 0), NONE);
        Bench.due("a part of an array has no name", press.character(0, 4, 0, 0), NONE);
        Bench.due("but is a string", press.character(0, 4, 1, 0), 'u');
        Bench.due("which 2", press.character(0, 1, 2, 0), NONE);
        Bench.due("which -1", press.character(0, 1, -1, 0), NONE);
        for (int i : new int[] {-1, Integer.MAX_VALUE, Integer.MIN_VALUE}) {
            Bench.due("character", press.character(0, 1, 0, i), NONE);
            Bench.due("character", press.character(0, 1, 1, i), NONE);
            Bench.due("character", press.character(0, i, 1, 0), NONE);
            Bench.due("character", press.character(i, 1, 1, 0), NONE);
        }
        Bench.due("character", press.character(0, 5, 0, 0), NONE);
    }

    private static void compares() {
        String[] values = {"null", "true", "false", "0", "1", "\"\"", "\"a\"", "\"ab\"", "[]", "[1]", "[1,2]",
            "[2,1]", "[[]]", "{}", "{\"a\":1}", "{\"b\":1}", "{\"a\":2}", "{\"a\":1,\"b\":2}", "{\"a\":[1,2]}",
            "[[1],2]", "[[1,2]]", "[{}]", "{\"a\":{\"b\":1}}", "\"b\"", "\"\u00e9\"", "{\"ab\":1}", "[[],[]]",
            "[[[]]]", "[1,[]]", "[[],1]", "1e-300", "-1", "\"null\""};
        for (int i = 0; i < values.length; i++) {
            for (int j = 0; j < values.length; j++) {
                Bench fresh = new Bench();
                fresh.put(0, values[i]);
                fresh.put(1, values[j]);
                String call = "same of " + values[i] + " and " + values[j];
                Bench.due(call, fresh.press.same(0, 0, 1, 0), i == j ? 1 : 0);
            }
        }
        compare("{\"b\":[1,2],\"a\":\"x\"}", " { \"a\" : \"\\u0078\", \"b\" : [1.0, 20e-1] } ", 1);
        compare("0", "-0", 1);
        compare("[0,{\"a\":-0}]", "[-0.0,{\"a\":0e5}]", 1);
        compare("5e-324", "0", 0);
        compare("1", "-1", 0);
        bench.put(0, "{\"a\":[1,\"x\"],\"b\":[1,\"x\"],\"c\":1,\"d\":{\"c\":1}}");
        Bench.due("names are not of the value", press.same(0, 1, 0, 4), 1);
        Bench.due("parts", press.same(0, 2, 0, 7), 1);
        Bench.due("parts", press.same(0, 2, 0, 9), 1);
        Bench.due("parts", press.same(0, 3, 0, 6), 1);
        Bench.due("parts", press.same(0, 1, 0, 8), 0);
        Bench.due("itself", press.same(0, 0, 0, 0), 1);
        int[][] none = {{0, 10, 0, 0}, {0, 0, 0, 10}, {0, -1, 0, 0}, {8, 0, 0, 0}, {0, 0, -1, 0}, {0, 0, 0, -1},
            {0, Integer.MAX_VALUE, 0, 0}, {Integer.MIN_VALUE, 0, 0, 0}, {0, 0, 8, 0}};
        for (int[] call : none) {
            Bench.due("same", press.same(call[0], call[1], call[2], call[3]), NONE);
        }
    }

    private static void compare(String a, String b, int due) {
        bench.put(0, a);
        bench.put(1, b);
        Bench.due("same of " + a + " and " + b, press.same(0, 0, 1, 0), due);
        Bench.due("same of " + b + " and " + a, press.same(1, 0, 0, 0), due);
    }
}
