import java.math.BigInteger;

/** The Terms on SHELVES, and promises 15 and 17 to 19: POINTERS, MERGED ones, PATCHES and parts. */
final class ShelfEdges {
    private static final int NONE = CanonPress.NONE;
    private static final int NO_POINTER = -2;
    private static final int NO_PATCH = -2;
    private static final int[] NO_SHELVES = {-1, 8, Edges.LEAST, Edges.MOST};

    private ShelfEdges() {
    }

    static void all() {
        shelvesAreEight();
        shelvesHaveSoManyValues();
        shelvesHaveSoManyBytes();
        documentsNeverChange();
        mergesWhatIsNoObject();
        mergesOntoNoObject();
        mergesNulls();
        mergesOthers();
        mergesAllElse();
        patchIsTheOther();
        patchHasNulls();
        patchHasChanges();
        thereIsNoPatch();
        thereIsNoPatchAtAnyDepth();
        pointerIsNothing();
        pointerHasTokens();
        tokensHaveCharacters();
        tokensHaveEscapes();
        tokensOfObjects();
        tokensOfArrays();
        pointEmptiesTheTape();
        pointFindsNone();
        pointRefuses();
        mergeAnswers();
        mergeRefuses();
        patchAnswers();
        patchRefusesNone();
        patchRefusesNoPatch();
        patchRefusesTooMuch();
        partAnswers();
        partRefuses();
    }

    /** Every call that takes a SHELF, with this one: whether there is such a one, without and with a DOCUMENT. */
    private static void shelvesAreEight() {
        Edges.says("SHELVES 0 .. 7 have a DOCUMENT or none.");
        for (int shelf = 0; shelf < 8; shelf++) {
            Bench bench = new Bench();
            CanonPress press = bench.press;
            Bench.due("none is there", press.value(shelf, 0, 0), NONE);
            Bench.due("none is there", press.form(shelf, 0), NONE);
            bench.put(shelf, "7");
            Bench.due("one is there", press.value(shelf, 0, 0), 3);
            Bench.due("one is there", press.form(shelf, 0), 1);
            Bench.due("merge", press.merge(shelf, shelf, shelf), 1);
            Bench.due("patch", press.patch(shelf, shelf, shelf), 1);
            Bench.due("part", press.part(shelf, 0, shelf), 1);
            Bench.due("point", press.point(shelf), 0);
            Bench.due("one in all", press.about(2), 1);
        }
        for (int shelf : NO_SHELVES) {
            Bench bench = Edges.laid("7");
            Bench.due("document", bench.press.document(shelf), NONE);
            Bench.due("part onto it", Edges.shelved("7").press.part(0, 0, shelf), NONE);
            Bench.due("merge onto it", Edges.shelved("7").press.merge(0, 0, shelf), NONE);
            Bench.due("patch onto it", Edges.shelved("7").press.patch(0, 0, shelf), NONE);
            Bench.due("none came", bench.press.about(2), 0);
        }
    }

    private static String array(int parts) {
        return "[" + "1,".repeat(parts - 1) + "1]";
    }

    private static void shelvesHaveSoManyValues() {
        Edges.says("A DOCUMENT on a SHELF has at most 500 VALUES,");
        Bench bench = Edges.shelved("{'a':" + array(248) + "}", "{'b':" + array(249) + "}", "{'b':" + array(250) + "}");
        Bench.due("merge to 500", bench.press.merge(0, 1, 3), 500);
        Bench.due("they are there", bench.press.value(3, 499, 0), 3);
        Bench.due("merge to 501", bench.press.merge(0, 2, 4), NONE);
        bench.put(2, Edges.q("{'c':null}"));
        Bench.due("a null that goes counts nothing", bench.press.merge(3, 2, 4), 500);
        bench.put(2, Edges.q("{'b':" + array(249).replace('1', '2') + "}"));
        Bench.due("what is replaced counts nothing", bench.press.merge(3, 2, 4), 500);
        Bench.due("part of 500", bench.press.part(3, 0, 5), 500);
        Bench.due("document of 500", Edges.shelved(array(499)).press.value(0, 0, 4), 500);
    }

    private static Bench filled(String name, String text) {
        Bench bench = Edges.shelved("{'a':'" + "x".repeat(1900) + "'}", "{'b':'" + "y".repeat(1900) + "'}",
                "{'" + name + "':'" + text + "'}");
        Bench.due("merge to 3802 bytes", bench.press.merge(0, 1, 0), 3);
        return bench;
    }

    private static void shelvesHaveSoManyBytes() {
        Edges.says("and NAMES and STRINGS of 4000 bytes of UTF-8 in all;");
        String[] letters = {"z", "\u007f", "\u0080", "\u07ff", "\u0800", "\uffff", "\ud800\udc00", "\udbff\udfff"};
        for (String letter : letters) {
            int bytes = Bench.utf8(letter).length;
            int left = 4000 - 3802 - 2 * bytes;
            Bench.due("4000 bytes with " + letter, filled(letter, letter + "z".repeat(left)).press.merge(0, 2, 3), 4);
            Bench.due("4001 bytes with " + letter, filled(letter, letter + "z".repeat(left + 1)).press.merge(0, 2, 3), NONE);
            Bench.due("in the NAME alone", filled(letter.repeat(198 / bytes), "z".repeat(198 % bytes)).press.merge(0, 2, 3), 4);
            Bench.due("one more", filled(letter.repeat(198 / bytes), "z".repeat(198 % bytes + 1)).press.merge(0, 2, 3), NONE);
        }
        // An ESCAPE counts as its CHARACTER.
        Bench.due("escapes", filled("c", "\\u0041\\n" + "z".repeat(195)).press.merge(0, 2, 3), 4);
        Bench.due("escapes", filled("c", "\\u0041\\n" + "z".repeat(196)).press.merge(0, 2, 3), NONE);
        Bench full = filled("c", "z".repeat(197));
        Bench.due("full", full.press.merge(0, 2, 0), 4);
        full.put(2, Edges.q("{'':[1,2,{}]}"));
        Bench.due("VALUES without bytes still come", full.press.merge(0, 2, 3), 8);
        Bench.due("part of 4000 bytes", full.press.part(0, 0, 4), 4);
        full.put(2, Edges.q("{'c':'" + "w".repeat(197) + "'}"));
        Bench.due("what goes counts nothing", full.press.merge(0, 2, 5), 4);
    }

    private static void documentsNeverChange() {
        Edges.says("it never changes, another one may come in its place.");
        String first = "{'a':[1,{'b':'x'}],'c':{'d':null}}";
        Bench bench = Edges.shelved(first, "{'a':{'e':1}}");
        CanonPress press = bench.press;
        press.part(0, 1, 2);
        press.merge(0, 1, 3);
        press.patch(0, 1, 4);
        Bench.due("the first stays", bench.formOf(0), Edges.q(first));
        Bench.due("the second stays", bench.formOf(1), Edges.q("{'a':{'e':1}}"));
        bench.put(0, "7");
        bench.put(1, "8");
        Bench.due("the part is its own", bench.formOf(2), Edges.q("[1,{'b':'x'}]"));
        Bench.due("so is the MERGED one", bench.formOf(3), Edges.q("{'a':{'e':1},'c':{'d':null}}"));
        Bench.due("and the PATCH", bench.formOf(4), Edges.q("{'a':{'e':1},'c':null}"));
        Bench.due("another one came", bench.formOf(0), "7");
        bench.put(2, "9");
        press.part(3, 0, 5);
        press.merge(3, 0, 3);
        bench.put(3, "[10]");
        bench.put(2, "[11]");
        Bench.due("a copy of the whole is its own", bench.formOf(5), Edges.q("{'a':{'e':1},'c':{'d':null}}"));
        Bench.due("how many SHELVES", press.about(2), 6);
    }

    private static void merges(String target, String patch, String due) {
        Bench bench = Edges.shelved(target, patch);
        int values = bench.press.merge(0, 1, 2);
        Bench.due("merge of " + target + " with " + patch, bench.formOf(2), Edges.q(due));
        Bench.due("how many VALUES", values, bench.press.value(2, 0, 4));
    }

    private static void mergesWhatIsNoObject() {
        Edges.says("MERGED (RFC 7396) is a target with a patch: a patch that is no OBJECT is it;");
        for (String patch : new String[] {"null", "true", "false", "7", "'x'", "[]", "[null,{'a':null}]"}) {
            merges("{'a':1}", patch, patch);
            merges("[1]", patch, patch);
            merges("{'a':{'b':1}}", "{'a':" + patch + "}", patch.equals("null") ? "{}" : "{'a':" + patch + "}");
        }
    }

    private static void mergesOntoNoObject() {
        Edges.says("else, a target that is no OBJECT counting as one without parts:");
        for (String target : new String[] {"null", "true", "7", "'x'", "[]", "[1,2]", "{}"}) {
            merges(target, "{}", "{}");
            merges(target, "{'a':1}", "{'a':1}");
            merges(target, "{'a':null,'b':{'c':null,'d':1}}", "{'b':{'d':1}}");
            merges("{'x':" + target + "}", "{'x':{'a':1,'b':null}}", "{'x':{'a':1}}");
        }
    }

    private static void mergesNulls() {
        Edges.says("for each part of the patch: if that is null, the target's part of this NAME goes, if there is one;");
        merges("{'a':1}", "{'a':null}", "{}");
        merges("{'a':null}", "{'a':null}", "{}");
        merges("{'a':{'b':[1,2]},'c':3}", "{'a':null}", "{'c':3}");
        merges("{'b':1}", "{'a':null,'c':null}", "{'b':1}");
        merges("{}", "{'a':null}", "{}");
        merges("{'a':1,'b':2,'c':3}", "{'a':null,'b':null,'c':null}", "{}");
        merges("{'a':{'b':1,'c':2}}", "{'a':{'b':null}}", "{'a':{'c':2}}");
        merges("{'a':{'b':1}}", "{'a':{'b':null}}", "{'a':{}}");
        merges("{'':1,'a':2}", "{'':null}", "{'a':2}");
    }

    private static void mergesOthers() {
        Edges.says("else the target's part (null, if there is none) MERGED with it is the part of this NAME.");
        merges("{}", "{'a':{'b':null}}", "{'a':{}}");
        merges("{}", "{'a':{'b':{'c':null,'d':1}}}", "{'a':{'b':{'d':1}}}");
        merges("{'a':1}", "{'a':{'b':null,'c':2}}", "{'a':{'c':2}}");
        merges("{'a':null}", "{'a':{'b':1}}", "{'a':{'b':1}}");
        merges("{'a':{'b':1}}", "{'a':{'b':{'c':1}}}", "{'a':{'b':{'c':1}}}");
        merges("{'a':{'b':1}}", "{'a':{'c':2}}", "{'a':{'b':1,'c':2}}");
        merges("{'a':[{'b':1}]}", "{'a':[{'b':null}]}", "{'a':[{'b':null}]}");
        merges("{'m':1}", "{'a':1,'z':2}", "{'a':1,'m':1,'z':2}");
        String open = "{'a':".repeat(30);
        String close = "}".repeat(30);
        merges(open + "1" + close, open + "2" + close, open + "2" + close);
        merges(open + "1" + close, open + "null" + close, "{'a':".repeat(29) + "{}" + "}".repeat(29));
        merges("7", open + "null" + close, "{'a':".repeat(29) + "{}" + "}".repeat(29));
        merges("{}", open + "[]".replace("[]", "3") + close, open + "3" + close);
    }

    private static void mergesAllElse() {
        Edges.says("All else stays.");
        merges("{'a':{'x':1},'b':{'y':2},'c':3}", "{'a':{'z':4}}", "{'a':{'x':1,'z':4},'b':{'y':2},'c':3}");
        merges("{'a':{'x':1},'b':{'y':2},'c':3}", "{'b':{'z':4}}", "{'a':{'x':1},'b':{'y':2,'z':4},'c':3}");
        merges("{'m':{'x':1}}", "{'m':{'y':2},'n':{'z':3},'o':4}", "{'m':{'x':1,'y':2},'n':{'z':3},'o':4}");
        merges("{'a':{'b':{'c':1},'d':2},'e':3}", "{'a':{'b':{'f':4}}}", "{'a':{'b':{'c':1,'f':4},'d':2},'e':3}");
        merges("{'a':null,'b':-0,'c':[null],'d':{'e':null}}", "{}", "{'a':null,'b':0,'c':[null],'d':{'e':null}}");
        merges("{'a':null,'d':{'e':null,'f':1}}", "{'d':{'f':2}}", "{'a':null,'d':{'e':null,'f':2}}");
        Bench bench = Edges.shelved("{'a':-0}", "{}");
        bench.press.merge(0, 1, 2);
        Bench.due("-0 stays -0", bench.press.bits(2, 1), Long.MIN_VALUE);
        bench.put(1, Edges.q("{'a':0}"));
        bench.press.merge(0, 1, 2);
        Bench.due("unless another one comes", bench.press.bits(2, 1), 0);
    }

    private static void patches(String from, String into, String due) {
        Bench bench = Edges.shelved(from, into);
        int values = bench.press.patch(0, 1, 2);
        String call = "patch from " + from + " to " + into;
        Bench.due(call, values < 0 ? "" + values : bench.formOf(2), Edges.q(due));
        if (values >= 0) {
            Bench.due("how many VALUES: " + call, values, bench.press.value(2, 0, 4));
            bench.press.merge(0, 2, 3);
            Bench.due("merged it is the other: " + call, bench.press.same(3, 0, 1, 0), 1);
        } else {
            Bench.due("nothing came: " + call, bench.press.about(2), 2);
        }
    }

    private static void patchIsTheOther() {
        Edges.says("The PATCH from a to b: if b is no OBJECT, or a is none, b;");
        String[] others = {"null", "true", "7", "'x'", "[]", "[null,{'a':null}]"};
        for (String a : others) {
            for (String b : others) {
                patches(a, b, b);
            }
            patches("{'a':1}", a, a);
            patches("{}", a, a);
            patches(a, "{}", "{}");
            patches(a, "{'a':{'b':1}}", "{'a':{'b':1}}");
        }
    }

    private static void patchHasNulls() {
        Edges.says("else an OBJECT with: for each NAME of a that b has not: null;");
        patches("{'a':1}", "{}", "{'a':null}");
        patches("{'a':null}", "{}", "{'a':null}");
        patches("{'a':{'b':[1,2]},'c':'x'}", "{}", "{'a':null,'c':null}");
        patches("{'a':{'b':1,'c':2}}", "{'a':{'c':2}}", "{'a':{'b':null}}");
        patches("{'a':1,'b':2,'c':3}", "{'b':2}", "{'a':null,'c':null}");
        patches("{'a':1}", "{'aa':1}", "{'a':null,'aa':1}");
        patches("{'':1}", "{'b':1}", "{'':null,'b':1}");
        patches("{}", "{}", "{}");
    }

    private static void patchHasChanges() {
        Edges.says("for each NAME of b whose VALUE is not the same as a's, or that a has not: the PATCH from a's VALUE"
                + " (null, if there is none) to b's.");
        patches("{'a':1}", "{'a':1}", "{}");
        patches("{'a':0}", "{'a':-0}", "{}");
        patches("{'a':{'b':0}}", "{'a':{'b':-0}}", "{}");
        patches("{'a':5e-324}", "{'a':0}", "{'a':0}");
        patches("{'a':null}", "{'a':null}", "{}");
        patches("{'a':[null]}", "{'a':[null]}", "{}");
        patches("{'a':{'n':null,'b':1}}", "{'a':{'n':null,'b':2}}", "{'a':{'b':2}}");
        patches("{}", "{'a':{'b':{}}}", "{'a':{'b':{}}}");
        patches("{'a':1}", "{'a':{}}", "{'a':{}}");
        patches("{}", "{'a':{}}", "{'a':{}}");
        patches("{'b':1}", "{'a':{'b':1},'b':1}", "{'a':{'b':1}}");
        patches("{'a':{'x':1},'b':{'y':2}}", "{'a':{'x':2},'b':{'y':2}}", "{'a':{'x':2}}");
        patches("{'a':{'x':1},'b':{'y':2},'c':3}", "{'a':{'w':1},'b':{'y':2},'c':4}",
                "{'a':{'w':1,'x':null},'c':4}");
        patches("{'a':{}}", "{'a':1}", "{'a':1}");
        patches("{'a':{'b':1}}", "{'a':{'b':1,'c':{}}}", "{'a':{'c':{}}}");
        patches("{'a':[1,2]}", "{'a':[1,2,3]}", "{'a':[1,2,3]}");
        patches("{'a':'x'}", "{'a':'X'}", "{'a':'X'}");
        patches("{'a':false}", "{'a':true}", "{'a':true}");
        String open = "{'a':".repeat(30);
        String close = "}".repeat(30);
        patches(open + "1" + close, open + "2" + close, open + "2" + close);
        patches(open + "1" + close, open + "1" + close, "{}");
        patches(open + "1" + close, "{'a':".repeat(29) + "{}" + "}".repeat(29), open + "null" + close);
        patches("{'m':1}", "{'a':2,'m':1,'z':3}", "{'a':2,'z':3}");
    }

    private static void thereIsNoPatch() {
        Edges.says("There is no PATCH, if a null stands as a part of an OBJECT in b's VALUES that come into the PATCH thus");
        patches("{}", "{'a':null}", "-2");
        patches("7", "{'a':null}", "-2");
        patches("{'a':1}", "{'a':null}", "-2");
        patches("{'a':1,'b':1}", "{'a':1,'b':null}", "-2");
        patches("{'a':{}}", "{'a':null}", "-2");
        // Not if it is the same there already, or is the whole, or goes.
        patches("{'a':null}", "{'a':null,'b':1}", "{'b':1}");
        patches("{'a':1}", "null", "null");
        patches("null", "null", "null");
        patches("{'a':null,'b':{'c':null}}", "{}", "{'a':null,'b':null}");
    }

    private static void thereIsNoPatchAtAnyDepth() {
        Edges.says("(in OBJECTS within it at any depth, but not within ARRAYS).");
        patches("{}", "{'a':{'b':null}}", "-2");
        patches("{}", "{'a':{'b':{'c':null}}}", "-2");
        patches("{'a':{'b':1}}", "{'a':{'b':1,'c':{'d':null}}}", "-2");
        patches("{'a':[]}", "{'a':{'b':[],'c':null}}", "-2");
        patches("7", "{'a':".repeat(30) + "null" + "}".repeat(30), "-2");
        patches("{'a':".repeat(30) + "1" + "}".repeat(30), "{'a':".repeat(30) + "null" + "}".repeat(30), "-2");
        patches("{}", "{'a':[null]}", "{'a':[null]}");
        patches("{}", "{'a':[{'b':null}]}", "{'a':[{'b':null}]}");
        patches("{}", "{'a':{'b':[[{'c':{'d':null}}]]}}", "{'a':{'b':[[{'c':{'d':null}}]]}}");
        patches("7", "[{'a':null},null]", "[{'a':null},null]");
        patches("{'a':1}", "{'a':[null],'b':null}", "-2");
        patches("{'a':1}", "{'a':[{'x':null}],'b':{'c':[null],'d':null}}", "-2");
        patches("{'a':{'b':{'c':null}}}", "{'a':{'b':{'c':null},'d':1}}", "{'a':{'d':1}}");
        patches("{'a':{'b':{'c':null}}}", "{'a':{'b':{'c':null,'d':null}}}", "-2");
    }

    private static void points(String document, String pointer, int due) {
        Bench bench = Edges.shelved(document);
        bench.lay(pointer);
        Bench.due("point by " + pointer + " into " + document, bench.press.point(0), due);
        Bench.due("the TAPE is empty", bench.press.about(0), 0);
    }

    private static void points(byte[] pointer, int due) {
        Bench bench = Edges.shelved("{'a':1}");
        bench.lay(pointer);
        String told = new String(pointer, java.nio.charset.StandardCharsets.ISO_8859_1);
        Bench.due("point by " + told, bench.press.point(0), due);
    }

    private static void pointerIsNothing() {
        Edges.says("A POINTER (RFC 6901) is a TEXT: nothing (the whole),");
        for (String document : new String[] {"7", "null", "[]", "{}", "{'':1}", "[1]"}) {
            points(document, "", 0);
        }
    }

    private static void pointerHasTokens() {
        Edges.says("or more than once / and a TOKEN:");
        points("{'':{'':{'':1}}}", "/", 1);
        points("{'':{'':{'':1}}}", "//", 2);
        points("{'':{'':{'':1}}}", "///", 3);
        points("{'':{'':{'':1}}}", "////", NONE);
        points("{'a':{'b':[5,[6]]}}", "/a/b/1/0", 5);
        points("{'a':1}", "/a/", NONE);
        for (String bad : new String[] {"a", "0", " /a", "a/", "~", "~0", "~1a", "#/a", "#", "\\", "\u0000"}) {
            points("{'a':1}", bad, NO_POINTER);
        }
        points("{'a':1}", "/".repeat(2000), NONE);
        points("[".repeat(30) + "7" + "]".repeat(30), "/0".repeat(30), 30);
        points("[".repeat(30) + "7" + "]".repeat(30), "/0".repeat(31), NONE);
        points("{'" + "n".repeat(1992) + "':7}", "/" + "n".repeat(1992), 1);
        points("{'a':1}", "/" + "a".repeat(1999), NONE);
    }

    private static void tokensHaveCharacters() {
        Edges.says("CHARACTERS in UTF-8 (from 0 on, but / and ~ ),");
        points("{'\\u0000':1,'\\u001f':2,' ':3}", "/\u0000", 1);
        points("{'\\u0000':1,'\\u001f':2,' ':3}", "/\u001f", 2);
        points("{'\\u0000':1,'\\u001f':2,' ':3}", "/ ", 3);
        points("{'\\\"':1,'\\\\':2}", "/\"", 1);
        points("{'\\\"':1,'\\\\':2}", "/\\", 2);
        points("{'\\\\n':1}", "/\\n", 1);
        points("{'\\n':1}", "/\n", 1);
        points("{'%20':1}", "/%20", 1);
        for (String c : new String[] {"\u007f", "\u0080", "\u07ff", "\u0800", "\ud7ff", "\ue000", "\uffff",
            "\ud800\udc00", "\udbff\udfff"}) {
            points("{'" + c + "':7}", "/" + c, 1);
        }
        int[][] bad = {{0x80}, {0xBF}, {0xC0, 0x80}, {0xC1, 0xBF}, {0xC2}, {0xC2, 0x7F}, {0xE0, 0x9F, 0xBF}, {0xE1, 0x80},
            {0xED, 0xA0, 0x80}, {0xF0, 0x8F, 0xBF, 0xBF}, {0xF1, 0x80, 0x80}, {0xF4, 0x90, 0x80, 0x80}, {0xF5}, {0xFF}};
        for (int[] row : bad) {
            byte[] pointer = new byte[row.length + 1];
            byte[] behind = new byte[row.length + 4];
            pointer[0] = '/';
            behind[0] = '/';
            behind[1] = 'x';
            behind[2] = '/';
            behind[row.length + 3] = '/';
            for (int i = 0; i < row.length; i++) {
                pointer[i + 1] = (byte) row[i];
                behind[i + 3] = (byte) row[i];
            }
            points(pointer, NO_POINTER);
            points(behind, NO_POINTER);
        }
    }

    private static void tokensHaveEscapes() {
        Edges.says("~0 (a ~ ), ~1 (a / ).");
        String document = "{'/':1,'~':2,'~0':3,'~1':4,'a':5,'~~':6,'//':7}";
        // In the order of their NAMES: / // a ~ ~0 ~1 ~~
        points(document, "/~1", 1);
        points(document, "/~1~1", 2);
        points(document, "/a", 3);
        points(document, "/~0", 4);
        points(document, "/~00", 5);
        points(document, "/~01", 6);
        points(document, "/~0~0", 7);
        points(document, "/~10", NONE);
        for (String bad : new String[] {"/~", "/~2", "/~/", "/~~", "/~~0", "/a~", "/a/~", "/x/~2", "/~a", "/~ ", "/0~",
            "/~/0", "/~\u0000"}) {
            points(document, bad, NO_POINTER);
        }
    }

    private static void tokensOfObjects() {
        Edges.says("Of an OBJECT a TOKEN is the part of that NAME,");
        points("{'0':1,'00':2,'01':3,'-':4}", "/0", 2);
        points("{'0':1,'00':2,'01':3,'-':4}", "/00", 3);
        points("{'0':1,'00':2,'01':3,'-':4}", "/01", 4);
        points("{'0':1,'00':2,'01':3,'-':4}", "/-", 1);
        points("{'a':1,'ab':2}", "/a", 1);
        points("{'a':1,'ab':2}", "/ab", 2);
        points("{'a':1,'ab':2}", "/abc", NONE);
        points("{'ab':2}", "/a", NONE);
        points("{'ab':2}", "/", NONE);
        points("{'':2}", "/", 1);
        points("{'a':1}", "/A", NONE);
        points("{'a':{'b':1},'b':2}", "/b", 3);
        points("{'a':{'b':1}}", "/b", NONE);
        points("{'a':1,'b':2}", "/0", NONE);
        points("{}", "/", NONE);
        points("{'\u00e9':1}", "/e\u0301", NONE);
    }

    private static void tokensOfArrays() {
        Edges.says("of an ARRAY part i, if it is 0 or digits that do not begin with 0.");
        points("[5,[6],7,8,9,10,11,12,13,14,15]", "/0", 1);
        points("[5,[6],7,8,9,10,11,12,13,14,15]", "/1", 2);
        points("[5,[6],7,8,9,10,11,12,13,14,15]", "/1/0", 3);
        points("[5,[6],7,8,9,10,11,12,13,14,15]", "/2", 4);
        points("[5,[6],7,8,9,10,11,12,13,14,15]", "/9", 11);
        points("[5,[6],7,8,9,10,11,12,13,14,15]", "/10", 12);
        points("[5,[6],7,8,9,10,11,12,13,14,15]", "/11", NONE);
        for (String none : new String[] {"/", "/00", "/01", "/-", "/-0", "/-1", "/+1", "/1.0", "/1e0", "/ 1", "/1 ", "/0x0",
            "/:", "/0:", "/a", "/\u0661", "/~0", "/~1", "/0/0", "/0/"}) {
            points("[5,[6],7]", none, NONE);
        }
        points("[]", "/0", NONE);
        String full = "[" + "0,".repeat(498) + "0]";
        for (char c = 0; c < 256; c++) {
            if ((c < '0' || c > '9') && c != '/' && c != '~') {
                points(full, "/" + c, NONE);
                points(full, "/1" + c, NONE);
                points(full, "/" + c + "1", NONE);
            }
        }
        for (String escaped : new String[] {"/~0", "/~1", "/1~0", "/1~1", "/~01", "/~11"}) {
            points(full, escaped, NONE);
        }
        points(full, "/498", 499);
        points(full, "/499", NONE);
        points(full, "/500", NONE);
        // What would come back to a part if the number wrapped around.
        for (int bits : new int[] {8, 16, 31, 32, 63, 64, 128}) {
            BigInteger round = BigInteger.TWO.pow(bits);
            String small = "[5,6,7]";
            points(small, "/" + round, NONE);
            points(small, "/" + round.add(BigInteger.ONE), NONE);
        }
        points("[5]", "/1" + "0".repeat(1998), NONE);
        points("[5]", "/" + "0".repeat(1999), NONE);
        points("7", "/0", NONE);
        points("'abc'", "/0", NONE);
        points("null", "/0", NONE);
    }

    private static void pointEmptiesTheTape() {
        Edges.says(15, "The TAPE, empty then, is a POINTER into the DOCUMENT on a SHELF: the NUMBER of its VALUE;");
        for (int shelf = 0; shelf < 8; shelf++) {
            Bench bench = new Bench();
            bench.put(shelf, Edges.q("{'b':1,'a':[2]}"));
            bench.lay("/a/0");
            Bench.due("point", bench.press.point(shelf), 2);
            Bench.due("the TAPE is empty", bench.press.about(0), 0);
            Bench.due("nothing points to the whole then", bench.press.point(shelf), 0);
            bench.lay("/b");
            Bench.due("a shorter one", bench.press.point(shelf), 3);
        }
        Bench full = Edges.shelved("[" + "0,".repeat(498) + "0]");
        full.lay("/498");
        Bench.due("the last of 500", full.press.point(0), 499);
    }

    private static void pointFindsNone() {
        Edges.says(15, "NONE if there is none such,");
        for (String none : new String[] {"/x", "/a/2", "/a/x", "/b/0", "/", "//"}) {
            Edges.refusesAndEmpties("point(0)", none, press -> press.point(0), NONE);
        }
    }

    private static void pointRefuses() {
        Edges.says(15, "-2 if it is no POINTER or there is no DOCUMENT.");
        for (String bad : new String[] {"x", "/~", "/~2", "/x/~"}) {
            Edges.refusesAndEmpties("point(0)", bad, press -> press.point(0), NO_POINTER);
        }
        for (int shelf : new int[] {7, -1, 8, Edges.LEAST, Edges.MOST}) {
            for (String tape : new String[] {"", "/a", "x", "/~"}) {
                Edges.refusesAndEmpties("point(" + shelf + ")", tape, press -> press.point(shelf), NO_POINTER);
            }
        }
    }

    private static void mergeAnswers() {
        Edges.says(17, "The DOCUMENT on a SHELF MERGED with the patch on another one comes to a third (perhaps one of them):"
                + " how many VALUES;");
        for (int to = 0; to < 8; to++) {
            Bench bench = Edges.shelved("{'a':1,'b':[2]}", "{'a':null,'c':{'d':3}}");
            Bench.due("merge onto " + to, bench.press.merge(0, 1, to), 5);
            Bench.due("it came", bench.formOf(to), Edges.q("{'b':[2],'c':{'d':3}}"));
            if (to != 0) {
                Bench.due("the target stays", bench.formOf(0), Edges.q("{'a':1,'b':[2]}"));
            }
            if (to != 1) {
                Bench.due("the patch stays", bench.formOf(1), Edges.q("{'a':null,'c':{'d':3}}"));
            }
            Bench.due("how many SHELVES", bench.press.about(2), to < 2 ? 2 : 3);
        }
        mergesManyNames();
        Bench one = Edges.shelved("{'a':null,'b':{'c':null}}");
        Bench.due("with itself, onto itself", one.press.merge(0, 0, 0), 2);
        Bench.due("it came", one.formOf(0), Edges.q("{'b':{}}"));
        Bench.due("the least", Edges.shelved("{'a':1}", "7").press.merge(0, 1, 2), 1);
    }

    /** 280 NAMES of two letters, the first of them from this one on. */
    private static String manyNames(char first) {
        StringBuilder text = new StringBuilder("{");
        for (int i = 0; i < 280; i++) {
            text.append(i > 0 ? "," : "").append("'").append((char) (first + i / 26)).append((char) ('a' + i % 26));
            text.append("':1");
        }
        return text + "}";
    }

    /** More NAMES than a SHELF can have VALUES, in both of them together. */
    private static void mergesManyNames() {
        Bench bench = Edges.shelved(manyNames('a'), manyNames('n'), "{}");
        for (int which = 0; which < 2; which++) {
            Bench.due("a PATCH of 280 nulls", bench.press.patch(which, 2, 3), 281);
            Bench.due("nothing goes by it", bench.press.merge(1 - which, 3, 4), 281);
            Bench.due("all is there", bench.press.same(1 - which, 0, 4, 0), 1);
            Bench.due("all goes by it", bench.press.merge(which, 3, 4), 1);
        }
        Bench.due("it is too much", bench.press.merge(0, 1, 5), NONE);
    }

    private static void mergeRefuses() {
        Edges.says(17, "NONE, and nothing comes, if one is none, or it would be too much for a SHELF.");
        for (int shelf : new int[] {7, -1, 8, Edges.LEAST, Edges.MOST}) {
            Edges.refuses("merge(" + shelf + ", 0, 1)", press -> press.merge(shelf, 0, 1), NONE);
            Edges.refuses("merge(0, " + shelf + ", 1)", press -> press.merge(0, shelf, 1), NONE);
            if (shelf != 7) {
                Edges.refuses("merge(0, 1, " + shelf + ")", press -> press.merge(0, 1, shelf), NONE);
            }
        }
        for (int to = 0; to < 8; to++) {
            int onto = to;
            Edges.refuses("too many VALUES, onto " + to, press -> press.merge(5, 6, onto), NONE);
        }
        for (int over = 0; over < 2; over++) {
            Bench bench = Edges.shelved("{'a':'" + "x".repeat(1990) + "'}", "{'b':'" + "y".repeat(1990) + "'}",
                    "{'c':'" + "z".repeat(17 + over) + "'}");
            bench.press.merge(0, 1, 0);
            String before = bench.formOf(0);
            Bench.due("bytes: " + (4000 + over), bench.press.merge(0, 2, 0), over == 0 ? 4 : NONE);
            Bench.due("nothing comes if they are too many", bench.formOf(0).equals(before) == (over == 1));
        }
    }

    private static void patchAnswers() {
        Edges.says(18, "The PATCH from the DOCUMENT on one SHELF to that on another one comes to a third: how many VALUES;");
        for (int to = 0; to < 8; to++) {
            Bench bench = Edges.shelved("{'a':1,'b':[2]}", "{'b':[2],'c':{'d':3}}");
            Bench.due("patch onto " + to, bench.press.patch(0, 1, to), 4);
            Bench.due("it came", bench.formOf(to), Edges.q("{'a':null,'c':{'d':3}}"));
            if (to > 1) {
                Bench.due("the first stays", bench.formOf(0), Edges.q("{'a':1,'b':[2]}"));
                Bench.due("the second stays", bench.formOf(1), Edges.q("{'b':[2],'c':{'d':3}}"));
            }
            Bench.due("how many SHELVES", bench.press.about(2), to < 2 ? 2 : 3);
        }
        Bench.due("from itself to itself", Edges.shelved("{'a':null}").press.patch(0, 0, 0), 1);
        Bench.due("the least", Edges.shelved("[1]", "7").press.patch(0, 1, 2), 1);
        Bench most = Edges.shelved("7", "[" + "0,".repeat(498) + "0]");
        Bench.due("the most", most.press.patch(0, 1, 2), 500);
    }

    private static void patchRefusesNone() {
        Edges.says(18, "NONE, and nothing comes, if one is none;");
        for (int shelf : new int[] {7, -1, 8, Edges.LEAST, Edges.MOST}) {
            Edges.refuses("patch(" + shelf + ", 0, 3)", press -> press.patch(shelf, 0, 3), NONE);
            Edges.refuses("patch(0, " + shelf + ", 3)", press -> press.patch(0, shelf, 3), NONE);
            if (shelf != 7) {
                Edges.refuses("patch(1, 5, " + shelf + ")", press -> press.patch(1, 5, shelf), NONE);
                // There is no PATCH either, but that comes behind it.
                Edges.refuses("patch(5, 0, " + shelf + ")", press -> press.patch(5, 0, shelf), NONE);
            }
        }
        Edges.refuses("patch(7, 0, 3), of which there is no PATCH", press -> press.patch(7, 0, 3), NONE);
    }

    private static void patchRefusesNoPatch() {
        Edges.says(18, "else -2, and nothing comes, if there is no PATCH;");
        Edges.refuses("patch(5, 0, 3)", press -> press.patch(5, 0, 3), NO_PATCH);
        Edges.refuses("patch(5, 0, 0)", press -> press.patch(5, 0, 0), NO_PATCH);
        Edges.refuses("patch(5, 0, 5)", press -> press.patch(5, 0, 5), NO_PATCH);
        Edges.refuses("patch(2, 0, 7)", press -> press.patch(2, 0, 7), NO_PATCH);
        Bench again = Edges.shelved("{}", "{'a':null}", "{'b':1}");
        Bench.due("there is none", again.press.patch(0, 1, 3), NO_PATCH);
        Bench.due("but of the next one there is", again.press.patch(0, 2, 3), 2);
        // It would be too much, too, but that comes behind it: the null ahead of what is too much, and behind it.
        for (String part : new String[] {"'a':null,'z':" + array(299), "'z':" + array(299) + ",'zz':null",
            "'z':" + array(299) + ",'zz':{'y':{'x':null}}"}) {
            Bench bench = Edges.shelved(names(200), "{" + part + "}");
            Bench.due("patch with " + part, bench.press.patch(0, 1, 2), NO_PATCH);
            Bench.due("nothing came", bench.press.about(2), 2);
        }
    }

    /** An OBJECT with so many NAMES, n100 and on. */
    private static String names(int howMany) {
        StringBuilder text = new StringBuilder("{");
        for (int i = 0; i < howMany; i++) {
            text.append(i > 0 ? "," : "").append("'n").append(100 + i).append("':1");
        }
        return text + "}";
    }

    private static void patchRefusesTooMuch() {
        Edges.says(18, "else NONE, and nothing comes, if it would be too much for a SHELF.");
        for (int over = 0; over < 2; over++) {
            Bench bench = Edges.shelved(names(200), "{'z':" + array(298 + over) + "}", "7");
            Bench.due("VALUES: " + (500 + over), bench.press.patch(0, 1, 2), over == 0 ? 500 : NONE);
            Bench.due("on its SHELF", bench.press.value(2, 0, 4), over == 0 ? 500 : 1);
            Bench wide = Edges.shelved("{'" + "a".repeat(1980) + "':1}", "{'" + "b".repeat(1980) + "':1}",
                    "{'" + "c".repeat(40 + over) + "':1}", "7");
            wide.press.merge(0, 1, 0);
            Bench.due("bytes: " + (4000 + over), wide.press.patch(0, 2, 3), over == 0 ? 4 : NONE);
            Bench.due("on its SHELF", wide.press.value(3, 0, 4), over == 0 ? 4 : 1);
        }
    }

    private static void partAnswers() {
        Edges.says(19, "The VALUE with a NUMBER on a SHELF, alone, comes to another one: how many VALUES;");
        String whole = "{'a':[1,{'x':'s'}],'b':-0}";
        String[] due = {"{'a':[1,{'x':'s'}],'b':0}", "[1,{'x':'s'}]", "1", "{'x':'s'}", "'s'", "0"};
        int[] sizes = {6, 4, 1, 2, 1, 1};
        for (int number = 0; number < due.length; number++) {
            for (int to : new int[] {0, 1, 7}) {
                Bench bench = Edges.shelved(whole, "[9]");
                Bench.due("part " + number, bench.press.part(0, number, to), sizes[number]);
                Bench.due("it came", bench.formOf(to), Edges.q(due[number]));
                Bench.due("it is the whole there", bench.press.value(to, 0, 2), NONE);
                Bench.due("and lies 0 deep", bench.press.value(to, 0, 5), 0);
                Bench.due("as part 0", bench.press.value(to, 0, 3), 0);
                Bench.due("without a NAME", bench.press.character(to, 0, 0, 0), NONE);
                Bench.due("and nothing else", bench.press.value(to, sizes[number], 0), NONE);
            }
        }
        Bench bench = Edges.shelved(whole);
        bench.press.part(0, 5, 1);
        Bench.due("-0 stays -0", bench.press.bits(1, 0), Long.MIN_VALUE);
        Bench full = Edges.shelved("[" + "0,".repeat(498) + "0]");
        Bench.due("the most", full.press.part(0, 0, 1), 500);
        Bench.due("the last", full.press.part(0, 499, 1), 1);
    }

    private static void partRefuses() {
        Edges.says(19, "NONE, and nothing comes, if there is none such.");
        for (int shelf : new int[] {7, -1, 8, Edges.LEAST, Edges.MOST}) {
            Edges.refuses("part(" + shelf + ", 0, 1)", press -> press.part(shelf, 0, 1), NONE);
            if (shelf != 7) {
                Edges.refuses("part(0, 0, " + shelf + ")", press -> press.part(0, 0, shelf), NONE);
            }
        }
        for (int number : new int[] {-1, 6, 499, 500, Edges.LEAST, Edges.MOST}) {
            Edges.refuses("part(0, " + number + ", 1)", press -> press.part(0, number, 1), NONE);
        }
        Edges.refuses("part(2, 500, 0)", press -> press.part(2, 500, 0), NONE);
    }
}
