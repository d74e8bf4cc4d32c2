/** Promises 17 to 19: MERGED documents, PATCHES and parts. */
public final class ShelfTest {
    private static final int NONE = CanonPress.NONE;
    private static final int NO_PATCH = -2;

    public static void main(String[] args) {
        mergesKnown();
        mergesOntoItself();
        refusesMerges();
        mergesUpToTheLimits();
        patchesKnown();
        hasNoPatch();
        refusesPatches();
        patchesUpToTheLimits();
        takesParts();
        Bench.close("ShelfTest");
    }

    private static void merges(String target, String patch, String due) {
        Bench bench = new Bench();
        bench.put(0, target);
        bench.put(1, patch);
        String call = "merge of " + target + " with " + patch;
        int values = bench.press.merge(0, 1, 2);
        Bench.due(call, bench.formOf(2), due);
        Bench.due("how many values: " + call, values, bench.press.value(2, 0, 4));
        bench.put(3, due);
        Bench.due("same: " + call, bench.press.same(2, 0, 3, 0), 1);
    }

    /** The table of RFC 7396, appendix A, and more. */
    private static void mergesKnown() {
        merges("{\"a\":\"b\"}", "{\"a\":\"c\"}", "{\"a\":\"c\"}");
        merges("{\"a\":\"b\"}", "{\"b\":\"c\"}", "{\"a\":\"b\",\"b\":\"c\"}");
        merges("{\"a\":\"b\"}", "{\"a\":null}", "{}");
        merges("{\"a\":\"b\",\"b\":\"c\"}", "{\"a\":null}", "{\"b\":\"c\"}");
        merges("{\"a\":[\"b\"]}", "{\"a\":\"c\"}", "{\"a\":\"c\"}");
        merges("{\"a\":\"c\"}", "{\"a\":[\"b\"]}", "{\"a\":[\"b\"]}");
        merges("{\"a\":{\"b\":\"c\"}}", "{\"a\":{\"b\":\"d\",\"c\":null}}", "{\"a\":{\"b\":\"d\"}}");
        merges("{\"a\":[{\"b\":\"c\"}]}", "{\"a\":[1]}", "{\"a\":[1]}");
        merges("[\"a\",\"b\"]", "[\"c\",\"d\"]", "[\"c\",\"d\"]");
        merges("{\"a\":\"b\"}", "[\"c\"]", "[\"c\"]");
        merges("{\"a\":\"foo\"}", "null", "null");
        merges("{\"a\":\"foo\"}", "\"bar\"", "\"bar\"");
        merges("{\"e\":null}", "{\"a\":1}", "{\"a\":1,\"e\":null}");
        merges("[1,2]", "{\"a\":\"b\",\"c\":null}", "{\"a\":\"b\"}");
        merges("{}", "{\"a\":{\"bb\":{\"ccc\":null}}}", "{\"a\":{\"bb\":{}}}");
        merges("{}", "{\"a\":[null,{\"b\":null}]}", "{\"a\":[null,{\"b\":null}]}");
        merges("{\"a\":1}", "{\"a\":{\"b\":null,\"c\":2}}", "{\"a\":{\"c\":2}}");
        merges("{\"a\":{\"x\":[1,2],\"y\":{\"z\":-0}}}", "{}", "{\"a\":{\"x\":[1,2],\"y\":{\"z\":0}}}");
        merges("{\"a\":null,\"b\":null}", "{\"b\":{}}", "{\"a\":null,\"b\":{}}");
        merges("{\"b\":1,\"d\":2,\"f\":3}", "{\"a\":4,\"c\":5,\"d\":null,\"e\":6,\"g\":7}",
                "{\"a\":4,\"b\":1,\"c\":5,\"e\":6,\"f\":3,\"g\":7}");
        merges("{\"\ud800\udc00\":1}", "{\"\uffff\":2,\"\ud7ff\":3}", "{\"\ud7ff\":3,\"\ud800\udc00\":1,\"\uffff\":2}");
        merges("{\"a\":".repeat(30) + "1" + "}".repeat(30), "{\"a\":".repeat(30) + "2" + "}".repeat(30),
                "{\"a\":".repeat(30) + "2" + "}".repeat(30));
        merges("{\"a\":".repeat(28) + "{\"c\":1}" + "}".repeat(28), "{\"a\":".repeat(28) + "{\"b\":[]}" + "}".repeat(28),
                "{\"a\":".repeat(28) + "{\"b\":[],\"c\":1}" + "}".repeat(28));
    }

    private static void mergesOntoItself() {
        for (int to = 0; to < 2; to++) {
            Bench bench = new Bench();
            bench.put(0, "{\"a\":1,\"b\":[2]}");
            bench.put(1, "{\"a\":{\"c\":3},\"b\":null}");
            Bench.due("merge", bench.press.merge(0, 1, to), 3);
            Bench.due("it came", bench.formOf(to), "{\"a\":{\"c\":3}}");
            Bench.due("the other stays", bench.formOf(1 - to),
                    to == 0 ? "{\"a\":{\"c\":3},\"b\":null}" : "{\"a\":1,\"b\":[2]}");
            Bench.due("how many shelves", bench.press.about(2), 2);
        }
        Bench bench = new Bench();
        bench.put(4, "{\"a\":null,\"b\":1}");
        Bench.due("merge with itself", bench.press.merge(4, 4, 4), 2);
        Bench.due("form", bench.formOf(4), "{\"b\":1}");
        bench.lay("1");
        bench.press.merge(4, 4, 5);
        Bench.due("the tape stays", bench.press.about(0), 1);
        Bench.due("OUT stays", bench.outText(), "{\"b\":1}");
    }

    private static void refusesMerges() {
        Bench bench = new Bench();
        CanonPress press = bench.press;
        bench.put(0, "{\"a\":1}");
        bench.put(2, "7");
        int[][] calls = {{0, 1, 2}, {1, 0, 2}, {0, 0, 8}, {0, 0, -1}, {-1, 0, 2}, {0, 8, 2}, {8, 0, 2},
            {Integer.MAX_VALUE, 0, 2}, {0, Integer.MIN_VALUE, 2}, {0, 0, Integer.MAX_VALUE}};
        for (int[] call : calls) {
            Bench.due("merge", press.merge(call[0], call[1], call[2]), NONE);
            Bench.due("patch", press.patch(call[0], call[1], call[2]), NONE);
        }
        Bench.due("nothing came", bench.formOf(2), "7");
        Bench.due("nothing came", press.about(2), 2);
    }

    private static String numbered(String letter, int from, int howMany) {
        StringBuilder text = new StringBuilder("{");
        for (int i = from; i < from + howMany; i++) {
            text.append(i > from ? "," : "").append("\"").append(letter).append(i).append("\":1");
        }
        return text + "}";
    }

    private static void mergesUpToTheLimits() {
        Bench bench = new Bench();
        CanonPress press = bench.press;
        bench.put(0, "{\"a\":[" + "1,".repeat(296) + "1]}");
        bench.put(1, "{\"b\":[" + "1,".repeat(199) + "1]}");
        Bench.due("merge to 500 values", press.merge(0, 1, 2), 500);
        bench.put(1, "{\"b\":[" + "1,".repeat(200) + "1]}");
        Bench.due("merge to 501 values", press.merge(0, 1, 2), NONE);
        Bench.due("nothing came", press.value(2, 0, 4), 500);
        bench.put(1, "{\"a\":null,\"b\":[" + "1,".repeat(400) + "1]}");
        Bench.due("what goes makes room", press.merge(0, 1, 2), 403);
        bench.put(0, "{\"a\":\"" + "x".repeat(1900) + "\"}");
        bench.put(1, "{\"b\":\"" + "\u00e9".repeat(950) + "\"}");
        Bench.due("merge", press.merge(0, 1, 2), 3);
        bench.put(3, "{\"c\":\"" + "y".repeat(197) + "\"}");
        Bench.due("merge to 4000 bytes", press.merge(2, 3, 4), 4);
        bench.put(3, "{\"c\":\"" + "y".repeat(198) + "\"}");
        Bench.due("merge to 4001 bytes", press.merge(2, 3, 4), NONE);
        bench.put(3, "{\"" + "n".repeat(198) + "\":1}");
        Bench.due("names count: 4000", press.merge(2, 3, 5), 4);
        bench.put(3, "{\"" + "n".repeat(199) + "\":1}");
        Bench.due("names count: 4001", press.merge(2, 3, 5), NONE);
        bench.put(3, "{\"\u20ac\":\"" + "\ud83d\ude00".repeat(48) + "y\"}");
        Bench.due("bytes of UTF-8 count: 3999", press.merge(2, 3, 5), 4);
        bench.put(3, "{\"\u20ac\":\"" + "\ud83d\ude00".repeat(49) + "\"}");
        Bench.due("bytes of UTF-8 count: 4001", press.merge(2, 3, 5), NONE);
        countsBytes("\u007f", 1);
        countsBytes("\u0080", 2);
        countsBytes("\u07ff", 2);
        countsBytes("\u0800", 3);
        countsBytes("\uffff", 3);
        countsBytes("\ud800\udc00", 4);
        countsBytes("\udbff\udfff", 4);
        Bench.due("form", press.form(4, 0), 2 + 3 * 5 + 2 + 4000);
        bench.put(6, "{\"d\":1}");
        Bench.due("no byte more", press.merge(4, 6, 4), NONE);
        Bench.due("nothing came", press.value(4, 0, 4), 4);
        bench.put(6, "{\"\":1}");
        Bench.due("a name without bytes fits", press.merge(4, 6, 7), 5);
        bench.put(6, "{\"c\":{\"" + "n".repeat(197) + "\":1}}");
        Bench.due("what goes is not counted", press.merge(4, 6, 7), 5);
        bench.put(0, numbered("n", 100, 200));
        bench.put(1, numbered("m", 100, 200));
        Bench.due("merge of many names", press.merge(0, 1, 2), 401);
        Bench.due("order", press.character(2, 201, 0, 0), 'n');
        Bench.due("order", press.character(2, 200, 0, 0), 'm');
    }

    /** This character, as a name and in a string, fills a shelf with what else takes 4000 - 2 of its bytes. */
    private static void countsBytes(String character, int bytes) {
        for (int over = 0; over < 2; over++) {
            Bench bench = new Bench();
            bench.put(0, "{\"a\":\"" + "x".repeat(1900) + "\"}");
            bench.put(1, "{\"b\":\"" + "y".repeat(1900) + "\"}");
            bench.press.merge(0, 1, 0);
            int left = 4000 - 3802 - 2 * bytes + over;
            bench.put(2, "{\"" + character + "\":\"" + character + "z".repeat(left) + "\"}");
            Bench.due("bytes of " + character, bench.press.merge(0, 2, 3), over == 0 ? 4 : NONE);
        }
    }

    private static void patches(String from, String into, String due) {
        Bench bench = new Bench();
        bench.put(0, from);
        bench.put(1, into);
        String call = "patch from " + from + " to " + into;
        int values = bench.press.patch(0, 1, 2);
        Bench.due(call, values < 0 ? "" + values : bench.formOf(2), due);
        if (values >= 0) {
            Bench.due("how many values: " + call, values, bench.press.value(2, 0, 4));
            Bench.due("merge", bench.press.merge(0, 2, 3) > 0);
            Bench.due("merged it is the other: " + call, bench.press.same(3, 0, 1, 0), 1);
        } else {
            Bench.due("nothing came", bench.press.about(2), 2);
        }
    }

    private static void patchesKnown() {
        patches("{}", "{}", "{}");
        patches("{\"a\":1}", "{\"a\":1}", "{}");
        patches("{\"a\":1}", "{\"a\":2}", "{\"a\":2}");
        patches("{\"a\":1}", "{}", "{\"a\":null}");
        patches("{}", "{\"a\":1}", "{\"a\":1}");
        patches("{\"a\":0}", "{\"a\":-0}", "{}");
        patches("{\"a\":{\"b\":1,\"c\":2}}", "{\"a\":{\"b\":1,\"c\":3,\"d\":4}}", "{\"a\":{\"c\":3,\"d\":4}}");
        patches("{\"a\":{\"b\":1}}", "{\"a\":{}}", "{\"a\":{\"b\":null}}");
        patches("{\"a\":{\"b\":1}}", "{\"a\":[]}", "{\"a\":[]}");
        patches("{\"a\":[1]}", "{\"a\":{\"b\":{}}}", "{\"a\":{\"b\":{}}}");
        patches("{\"a\":[1,2]}", "{\"a\":[1,3]}", "{\"a\":[1,3]}");
        patches("[1]", "[2]", "[2]");
        patches("[1]", "[1]", "[1]");
        patches("1", "1", "1");
        patches("{\"a\":1}", "null", "null");
        patches("{\"a\":1}", "7", "7");
        patches("7", "{\"a\":1}", "{\"a\":1}");
        patches("null", "{}", "{}");
        patches("{\"a\":null,\"b\":1}", "{\"a\":null,\"b\":2}", "{\"b\":2}");
        patches("{\"a\":{\"n\":null,\"b\":1}}", "{\"a\":{\"n\":null,\"b\":2}}", "{\"a\":{\"b\":2}}");
        patches("{\"a\":null}", "{}", "{\"a\":null}");
        patches("{}", "{\"a\":[null,{\"b\":null}]}", "{\"a\":[null,{\"b\":null}]}");
        patches("1", "[{\"a\":null}]", "[{\"a\":null}]");
        patches("{\"a\":\"long text\"}", "{}", "{\"a\":null}");
        patches("{\"a\":[1,2,{\"x\":1}],\"b\":{\"c\":{\"d\":1}}}", "{\"b\":{\"c\":{\"d\":2}}}",
                "{\"a\":null,\"b\":{\"c\":{\"d\":2}}}");
        patches("{\"\uffff\":1,\"\ud800\udc00\":2,\"b\":3}", "{\"\ue000\":1,\"\ud800\udc00\":3,\"a\":1}",
                "{\"a\":1,\"b\":null,\"\ud800\udc00\":3,\"\ue000\":1,\"\uffff\":null}");
        patches("{\"a\":".repeat(30) + "1" + "}".repeat(30), "{\"a\":".repeat(30) + "2" + "}".repeat(30),
                "{\"a\":".repeat(30) + "2" + "}".repeat(30));
    }

    private static void hasNoPatch() {
        String none = "-2";
        patches("{}", "{\"a\":null}", none);
        patches("{\"a\":1}", "{\"a\":null}", none);
        patches("7", "{\"a\":null}", none);
        patches("{\"a\":1}", "{\"a\":{\"b\":null}}", none);
        patches("{\"a\":{}}", "{\"a\":{\"b\":null}}", none);
        patches("{}", "{\"a\":{\"b\":{\"c\":null}}}", none);
        patches("[]", "{\"a\":{\"b\":[null],\"c\":null}}", none);
        patches("{\"a\":{\"b\":null}}", "{\"a\":{\"b\":null,\"c\":null}}", none);
        patches("{\"a\":[null]}", "{\"a\":[1],\"b\":null}", none);
        patches("{\"x\":1}", "{\"a\":[{\"b\":null}],\"z\":null}", none);
        for (int ahead = 0; ahead < 6; ahead++) {
            StringBuilder parts = new StringBuilder();
            for (int i = 0; i < ahead; i++) {
                parts.append("\"").append(i).append("\":[null,1],");
            }
            patches("7", "{" + parts + "\"n\":null}", none);
            patches("{}", "{\"a\":{" + parts + "\"n\":null}}", none);
            patches("{}", "{\"a\":{" + parts.toString().replace("[null,1]", "1") + "\"n\":null}}", none);
            patches("{}", "{\"a\":{" + parts.toString().replace("[null,1]", "{}") + "\"n\":null}}", none);
        }
    }

    private static void refusesPatches() {
        Bench bench = new Bench();
        CanonPress press = bench.press;
        bench.put(0, "{}");
        bench.put(1, "{\"a\":null}");
        bench.put(2, "7");
        Bench.due("no patch", press.patch(0, 1, 2), NO_PATCH);
        Bench.due("nothing came", bench.formOf(2), "7");
        Bench.due("one is none, ahead of no patch", press.patch(0, 1, 8), NONE);
        Bench.due("one is none", press.patch(0, 3, 2), NONE);
        Bench.due("one is none", press.patch(3, 1, 2), NONE);
        bench.put(3, "{\"b\":1,\"c\":2}");
        bench.put(4, "{\"b\":1,\"c\":3}");
        Bench.due("onto the first", press.patch(3, 4, 3), 2);
        Bench.due("it came", bench.formOf(3), "{\"c\":3}");
        bench.put(3, "{\"b\":1,\"c\":2}");
        Bench.due("onto the second", press.patch(3, 4, 4), 2);
        Bench.due("it came", bench.formOf(4), "{\"c\":3}");
        Bench.due("from itself to itself", press.patch(3, 3, 3), 1);
        Bench.due("it came", bench.formOf(3), "{}");
    }

    private static void patchesUpToTheLimits() {
        Bench bench = new Bench();
        CanonPress press = bench.press;
        bench.put(0, numbered("n", 100, 200));
        bench.put(1, "{\"o\":[" + "1,".repeat(297) + "1]}");
        Bench.due("patch of 500 values", press.patch(0, 1, 2), 500);
        bench.put(1, "{\"o\":[" + "1,".repeat(298) + "1]}");
        Bench.due("patch of 501 values", press.patch(0, 1, 2), NONE);
        Bench.due("nothing came", press.value(2, 0, 4), 500);
        bench.put(1, "{\"o\":[" + "1,".repeat(298) + "1],\"p\":null}");
        Bench.due("no patch is told ahead of too much", press.patch(0, 1, 2), NO_PATCH);
        bench.put(1, "{\"a\":null,\"o\":[" + "1,".repeat(298) + "1]}");
        Bench.due("no patch is told ahead of too much", press.patch(0, 1, 2), NO_PATCH);
        bench.put(1, "{\"o\":[" + "1,".repeat(298) + "1],\"p\":{\"q\":{\"r\":null}}}");
        Bench.due("no patch is told ahead of too much", press.patch(0, 1, 2), NO_PATCH);
        bench.put(0, "{\"" + "a".repeat(1990) + "\":\"\"}");
        bench.put(1, "{\"" + "b".repeat(1990) + "\":1}");
        Bench.due("patch", press.patch(0, 1, 3), 3);
        bench.put(4, "{\"c\":\"" + "c".repeat(20) + "\"}");
        Bench.due("merge to 4001 bytes", press.merge(3, 4, 5), NONE);
        bench.put(4, "{\"" + "a".repeat(1980) + "\":0,\"c\":\"" + "\"}");
        bench.put(5, "{\"" + "b".repeat(1980) + "\":0}");
        Bench.due("merge", press.merge(4, 5, 6), 4);
        bench.put(7, "{\"" + "d".repeat(40) + "\":1}");
        Bench.due("a patch of 4001 bytes", press.patch(6, 7, 2), NONE);
        bench.put(7, "{\"" + "d".repeat(39) + "\":1}");
        Bench.due("a patch of 4000 bytes", press.patch(6, 7, 2), 5);
        Bench.due("what a null was is not counted", press.value(2, 1, 0), 0);
        bench.put(0, "{\"a\":\"" + "x".repeat(1990) + "\"}");
        bench.put(1, "{\"b\":\"" + "y".repeat(1990) + "\"}");
        press.merge(0, 1, 2);
        bench.put(3, "{\"c\":\"" + "z".repeat(1990) + "\"}");
        Bench.due("strings that go are not counted", press.patch(2, 3, 4), 4);
    }

    private static void takesParts() {
        Bench bench = new Bench();
        CanonPress press = bench.press;
        String text = "{\"a\":[1,{\"x\":\"s\",\"y\":[]}],\"b\":\"\u20ac\"}";
        bench.put(0, text);
        String[] due = {text, "[1,{\"x\":\"s\",\"y\":[]}]", "1", "{\"x\":\"s\",\"y\":[]}", "\"s\"", "[]",
            "\"\u20ac\""};
        int[] sizes = {7, 5, 1, 3, 1, 1, 1};
        for (int i = 0; i < due.length; i++) {
            Bench.due("part", press.part(0, i, 1), sizes[i]);
            Bench.due("it came", bench.formOf(1), due[i]);
            Bench.due("it is the whole", press.value(1, 0, 2), NONE);
            Bench.due("which part", press.value(1, 0, 3), 0);
            Bench.due("how deep", press.value(1, 0, 5), 0);
            Bench.due("without a name", press.character(1, 0, 0, 0), NONE);
            Bench.due("same", press.same(0, i, 1, 0), 1);
        }
        press.part(0, 3, 1);
        Bench.due("the parts are less deep", press.value(1, 1, 5), 1);
        Bench.due("and have their names", press.character(1, 2, 0, 0), 'y');
        Bench.due("the first stays", bench.formOf(0), text);
        for (int[] call : new int[][] {{0, 7, 1}, {0, -1, 1}, {2, 0, 1}, {8, 0, 1}, {-1, 0, 1}, {0, 0, 8},
            {0, 0, -1}, {0, Integer.MAX_VALUE, 1}, {Integer.MIN_VALUE, 0, 1}, {0, 0, Integer.MAX_VALUE}}) {
            Bench.due("part", press.part(call[0], call[1], call[2]), NONE);
        }
        Bench.due("nothing came", bench.formOf(1), "{\"x\":\"s\",\"y\":[]}");
        Bench.due("onto itself", press.part(0, 1, 0), 5);
        Bench.due("it came", bench.formOf(0), due[1]);
        Bench.due("how many shelves", press.about(2), 2);
    }
}
