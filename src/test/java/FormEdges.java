import java.util.Arrays;

/** The CANONICAL FORM, and promises 11 to 14 and 16: what is told of VALUES, at each boundary. */
final class FormEdges {
    private static final int NONE = CanonPress.NONE;
    private static final int[] NO_SHELVES = {-1, 8, 7, Edges.LEAST, Edges.MOST};

    private FormEdges() {
    }

    static void all() {
        formHasNoBlanks();
        formOrdersNames();
        formPutsBeginningsAhead();
        formPrintsNumbers();
        formHasUtf8();
        formEscapesInTwo();
        formEscapesInSix();
        numbersAreOfTheForm();
        formTellsItsLength();
        formKeepsSoMany();
        formRefuses();
        valueTellsKinds();
        valueCounts();
        valueTellsItsOwner();
        valueTellsItsOrder();
        valueTellsItsSize();
        valueTellsItsDepth();
        valueRefuses();
        bitsOfNumbers();
        bitsOfOthers();
        charactersOfNamesAndStrings();
        charactersThatAreNone();
        sameOnes();
        sameNumbers();
        sameStringsAndArrays();
        sameObjects();
        sameRefuses();
        sameAnswers();
    }

    private static void forms(String text, String due) {
        Edges.forms(text, due);
    }

    private static void formHasNoBlanks() {
        Edges.says("The CANONICAL FORM (RFC 8785): no blanks;");
        forms(" [ 1 , { 'a' : ' ' , 'b' : [ ] } , { } ] ", "[1,{'a':' ','b':[]},{}]");
        forms("\t\n\r null \t\n\r", "null");
        forms("[]", "[]");
        forms("{}", "{}");
    }

    /** These NAMES stand in their order already; they are read from each of them on, both ways. */
    private static void ordered(String... names) {
        int count = names.length;
        StringBuilder due = new StringBuilder();
        for (int i = 0; i < count; i++) {
            due.append(i == 0 ? "{" : ",").append(part(names, i));
        }
        for (int start = 0; start < count; start++) {
            StringBuilder up = new StringBuilder();
            StringBuilder down = new StringBuilder();
            for (int i = 0; i < count; i++) {
                up.append(i == 0 ? "{" : ",").append(part(names, (start + i) % count));
                down.append(i == 0 ? "{" : ",").append(part(names, (start + count - i) % count));
            }
            forms(up + "}", due + "}");
            forms(down + "}", due + "}");
        }
    }

    private static String part(String[] names, int i) {
        return "'" + names[i] + "':" + i;
    }

    private static void formOrdersNames() {
        Edges.says("OBJECTS' parts in the order of their NAMES by UTF-16 units (CHARACTERS from 65536 on are two:"
                + " 55296 + (c - 65536) / 1024, 56320 + the rest),");
        ordered("A", "B", "a", "b");
        ordered("1", "10", "2");
        ordered("\u007f", "\u0080", "\u07ff", "\u0800", "\ud7ff", "\ud800\udc00", "\udbff\udfff", "\ue000", "\uffff");
        ordered("\ud7ff\uffff", "\ud800\udc00", "\ue000");
        // The first units differ, then only the second ones.
        ordered("\ud800\udfff", "\ud801\udc00", "\ud801\udc01");
        ordered("\ud800\udc00", "\ud800\udc01", "\ud800\udfff");
        ordered("a\ud83d\ude00", "a\ufb33", "b");
        ordered("x\ud800\udc00\uffff", "x\ud800\udc01", "x\ue000");
        ordered("\ud800\udc00\ud7ff", "\ud800\udc00\ud800\udc00", "\ud800\udc00\ue000");
        forms("{'\\uffff':1,'\\ud800\\udc00':2}", "{'\ud800\udc00':2,'\uffff':1}");
        forms("{'b':{'d':1,'c':2},'a':[{'f':1,'e':2}]}", "{'a':[{'e':2,'f':1}],'b':{'c':2,'d':1}}");
        forms("[3,1,2]", "[3,1,2]");
    }

    private static void formPutsBeginningsAhead() {
        Edges.says("one that is the beginning of another ahead of it;");
        ordered("", "a", "aa");
        ordered("a", "a\\u0000", "aa", "aaa", "ab");
        ordered("", "\\u0000", "\\u0000\\u0000");
        ordered("\ud800\udc00", "\ud800\udc00\ud800\udc00", "\uffff", "\uffff\\u0000", "\uffff\uffff");
        String name = "n".repeat(900);
        ordered(name, name + "\\u0000");
    }

    private static void formPrintsNumbers() {
        Edges.says("numbers PRINTED;");
        forms("[-0,0.0,1.0,1E2,1e21,1e20,1e-6,1e-7,5e-324,0.1e1]",
                "[0,0,1,100,1e+21,100000000000000000000,0.000001,1e-7,5e-324,1]");
        forms("1.7976931348623157e308", "1.7976931348623157e+308");
        forms("-1e-400", "0");
        forms("123456789012345678901234567890", "1.2345678901234568e+29");
    }

    private static void formHasUtf8() {
        Edges.says("CHARACTERS in UTF-8,");
        for (String c : new String[] {" ", "~", "\u007f", "\u0080", "\u07ff", "\u0800", "\ud7ff", "\ue000", "\uffff",
            "\ud800\udc00", "\udbff\udfff", "/", "\u2028", "\ufeff"}) {
            int code = c.codePointAt(0);
            String escape = code < 0x10000 ? String.format("\\u%04x", code)
                    : String.format("\\u%04x\\u%04x", (int) c.charAt(0), (int) c.charAt(1));
            forms("'" + escape + "'", "'" + c + "'");
            forms("{'" + escape + "':1}", "{'" + c + "':1}");
            Bench bench = Edges.shelved("'" + escape + "'");
            Bench.due("how many bytes", bench.press.form(0, 0), 2 + Bench.utf8(c).length);
        }
        forms("'\\/'", "'/'");
    }

    private static void formEscapesInTwo() {
        Edges.says("but \" BACKSLASH and 8, 9, 10, 12, 13 as ESCAPES of two bytes,");
        int[] codes = {34, 92, 8, 9, 10, 12, 13};
        String[] due = {"\\\"", "\\\\", "\\b", "\\t", "\\n", "\\f", "\\r"};
        for (int i = 0; i < codes.length; i++) {
            String escape = String.format("\\u%04X", codes[i]);
            forms("'" + escape + "'", "'" + due[i] + "'");
            forms("{'" + escape + "':1}", "{'" + due[i] + "':1}");
        }
    }

    private static void formEscapesInSix() {
        Edges.says("others below 32 as ESCAPES of six, with small digits.");
        for (int c = 0; c < 32; c++) {
            if (c < 8 || c == 11 || c > 13) {
                String escape = String.format("\\u%04x", c);
                forms("'" + String.format("\\u%04X", c) + "'", "'" + escape + "'");
                forms("{'" + escape + "':1}", "{'" + escape + "':1}");
            }
        }
        forms("'\\u0020\\u001F'", "' \\u001f'");
    }

    private static void numbersAreOfTheForm() {
        Edges.says("VALUES have NUMBERS as they stand in the CANONICAL FORM, by their first bytes there: 0 is the whole.");
        Bench bench = Edges.shelved("{'c':[10,{'y':11,'x':12}],'a':13,'b':{}}");
        String[] due = {"{'a':13,'b':{},'c':[10,{'x':12,'y':11}]}", "13", "{}", "[10,{'x':12,'y':11}]", "10",
            "{'x':12,'y':11}", "12", "11"};
        for (int number = 0; number < due.length; number++) {
            Bench.due("form(0, " + number + ")", bench.formOf(0, number), Edges.q(due[number]));
        }
        Bench.due("the whole", Edges.shelved("7").formOf(0, 0), "7");
        Bench full = Edges.shelved("[" + "0,".repeat(498) + "1]");
        Bench.due("the last of 500", full.formOf(0, 499), "1");
    }

    private static void formTellsItsLength() {
        Edges.says(11, "OUT is the CANONICAL FORM of the VALUE with a NUMBER on a SHELF: how many bytes");
        Bench bench = Edges.shelved("{'b':[1,'\u20ac'],'a':''}");
        int[] due = {22, 2, 9, 1, 5};
        for (int number = 0; number < due.length; number++) {
            Bench.due("form(0, " + number + ")", bench.press.form(0, number), due[number]);
            Bench.due("about(1)", bench.press.about(1), due[number]);
            Bench.due("no byte more", bench.press.out(due[number]), NONE);
        }
        bench.lay("1");
        bench.press.form(0, 0);
        Bench.due("the TAPE stays", bench.press.about(0), 1);
        Bench.due("on SHELF 7", onShelfSeven(), "[]");
    }

    private static String onShelfSeven() {
        Bench bench = new Bench();
        bench.put(7, "[]");
        return bench.formOf(7);
    }

    private static void formKeepsSoMany() {
        Edges.says(11, "(the first 12000 are kept);");
        int[] lengths = {11999, 12000, 12001, 12002, 12100};
        for (int length : lengths) {
            Bench bench = Edges.withFormOf(length);
            Bench.due("form", bench.press.form(0, 0), length);
            int kept = Math.min(12000, length);
            Bench.due("about(1)", bench.press.about(1), kept);
            Bench.due("behind the last one", bench.press.out(kept), NONE);
            Bench.due("the first one", bench.press.out(0), '{');
            int behind = length - kept;
            int due = behind == 0 ? '}' : behind == 1 ? '"' : behind == 2 ? 'x' : NONE;
            if (due != NONE) {
                Bench.due("the last one", bench.press.out(kept - 1), due);
            }
            Bench.due("out(12000)", bench.press.out(12000), NONE);
            bench.press.print(0);
            Bench.due("a shorter OUT comes in its place", bench.outText(), "0");
        }
    }

    private static void formRefuses() {
        Edges.says(11, "NONE, and OUT stays, if there is none such.");
        for (int shelf : NO_SHELVES) {
            Edges.refuses("form(" + shelf + ", 0)", press -> press.form(shelf, 0), NONE);
        }
        for (int number : new int[] {-1, 6, 499, 500, Edges.LEAST, Edges.MOST}) {
            Edges.refuses("form(0, " + number + ")", press -> press.form(0, number), NONE);
        }
        Edges.refuses("form(2, 500)", press -> press.form(2, 500), NONE);
    }

    private static void due(Bench bench, int what, int... due) {
        for (int number = 0; number < due.length; number++) {
            String call = "value(0, " + number + ", " + what + ")";
            Bench.due(call, bench.press.value(0, number, what), due[number]);
        }
    }

    private static void valueTellsKinds() {
        Edges.says(12, "Of the VALUE with a NUMBER what 0: its kind (0 null, 1 false, 2 true, 3 a number, 4 a STRING,"
                + " 5 an ARRAY, 6 an OBJECT),");
        due(Edges.shelved("[null,false,true,0,'',[],{}]"), 0, 5, 0, 1, 2, 3, 4, 5, 6);
    }

    private static void valueCounts() {
        Edges.says(12, "1: how many parts, of a STRING CHARACTERS (others 0),");
        due(Edges.shelved("[null,true,false,7,'','\ud83d\ude00\\ud83d\\ude00\u20acx',[],[1,[2,3]],{},{'abc':{}}]"), 1,
                10, 0, 0, 0, 0, 0, 4, 0, 2, 0, 2, 0, 0, 0, 1, 0);
        due(Edges.shelved("[" + "0,".repeat(498) + "0]"), 1, 499, 0);
        due(Edges.shelved("'" + "x".repeat(1998) + "'"), 1, 1998);
    }

    private static void valueTellsItsOwner() {
        Edges.says(12, "2: the NUMBER of what it is a part of (NONE of 0),");
        due(Edges.shelved("{'b':[1,[2]],'a':{'c':3}}"), 2, NONE, 0, 1, 0, 3, 3, 5);
        due(Edges.shelved("7"), 2, NONE);
        due(Edges.shelved("[]"), 2, NONE);
    }

    private static void valueTellsItsOrder() {
        Edges.says(12, "3: which part of that (from 0 on, in the CANONICAL FORM; of 0 it is 0),");
        due(Edges.shelved("{'b':[1,[2],3],'a':{'d':3,'c':4}}"), 3, 0, 0, 0, 1, 1, 0, 1, 0, 2);
        due(Edges.shelved("7"), 3, 0);
        Bench full = Edges.shelved("[" + "0,".repeat(498) + "0]");
        Bench.due("the last of 500", full.press.value(0, 499, 3), 498);
    }

    private static void valueTellsItsSize() {
        Edges.says(12, "4: how many VALUES it is, with its own parts,");
        due(Edges.shelved("{'b':[1,[2],3],'a':{'d':3,'c':4},'c':[]}"), 4, 10, 3, 1, 1, 5, 1, 2, 1, 1, 1);
        due(Edges.shelved("7"), 4, 1);
        due(Edges.shelved("[" + "0,".repeat(498) + "0]"), 4, 500, 1);
        due(Edges.shelved("[".repeat(30) + "]".repeat(30)), 4, 30, 29, 28);
    }

    private static void valueTellsItsDepth() {
        Edges.says(12, "5: how deep it lies (0 is 0).");
        due(Edges.shelved("{'b':[1,[2],3],'a':{'d':3}}"), 5, 0, 1, 2, 1, 2, 2, 3, 2);
        due(Edges.shelved("7"), 5, 0);
        Bench deep = Edges.shelved("[".repeat(30) + "7" + "]".repeat(30));
        Bench.due("the deepest", deep.press.value(0, 30, 5), 30);
        Bench.due("the innermost ARRAY", deep.press.value(0, 29, 5), 29);
    }

    private static void valueRefuses() {
        Edges.says(12, "NONE for others, or if there is none such.");
        for (int what : new int[] {-1, 6, 7, Edges.LEAST, Edges.MOST}) {
            Edges.refuses("value(0, 0, " + what + ")", press -> press.value(0, 0, what), NONE);
        }
        for (int what = 0; what < 6; what++) {
            int asked = what;
            for (int shelf : NO_SHELVES) {
                Bench.due("value of no SHELF", Edges.shelved("[1]").press.value(shelf, 0, asked), NONE);
            }
            for (int number : new int[] {-1, 2, 499, 500, Edges.LEAST, Edges.MOST}) {
                Bench.due("value of no NUMBER", Edges.shelved("[1]").press.value(0, number, asked), NONE);
            }
            Edges.refuses("value(0, 6, " + what + ")", press -> press.value(0, 6, asked), NONE);
        }
    }

    private static void bitsOfNumbers() {
        Edges.says(13, "The BITS of a VALUE that is a number;");
        Bench bench = Edges.shelved("[0,-0,5e-324,1.7976931348623157e308,-1e-400,{'a':-2.5}]");
        long[] due = {0, 0, Long.MIN_VALUE, 1, 0x7FEFFFFFFFFFFFFFL, Long.MIN_VALUE, 0, Double.doubleToLongBits(-2.5)};
        for (int number = 0; number < due.length; number++) {
            Bench.due("bits(0, " + number + ")", bench.press.bits(0, number), due[number]);
        }
        Bench.due("of the whole", Edges.shelved("1e23").press.bits(0, 0), 0x44B52D02C7E14AF6L);
    }

    private static void bitsOfOthers() {
        Edges.says(13, "0 if there is none such.");
        Bench bench = Edges.shelved("[1.5,null,true,false,'7',[],{}]", "7");
        bench.put(1, Edges.q("['x']"));
        for (int number : new int[] {0, 2, 3, 4, 5, 6, 7, 8, -1, 500, Edges.LEAST, Edges.MOST}) {
            Bench.due("bits(0, " + number + ")", bench.press.bits(0, number), 0);
        }
        Bench.due("nothing of an earlier number is left", bench.press.bits(1, 0), 0);
        for (int shelf : NO_SHELVES) {
            Edges.refuses("bits(" + shelf + ", 0)", press -> press.bits(shelf, 0), 0);
        }
    }

    private static void charactersOfNamesAndStrings() {
        Edges.says(14, "CHARACTER i of the NAME (which 0) of a VALUE that is a part of an OBJECT, or of a STRING (1);");
        Bench bench = Edges.shelved("{'n\ud83d\ude00\\u0000':'\\u0000\udbff\udfffs'}");
        int[] name = {'n', 0x1F600, 0};
        int[] text = {0, 0x10FFFF, 's'};
        for (int i = 0; i < 3; i++) {
            Bench.due("of the NAME", bench.press.character(0, 1, 0, i), name[i]);
            Bench.due("of the STRING", bench.press.character(0, 1, 1, i), text[i]);
        }
        Bench full = Edges.shelved("'" + "x".repeat(1997) + "y'");
        Bench.due("the last of 1998", full.press.character(0, 0, 1, 1997), 'y');
        Bench.due("behind it", full.press.character(0, 0, 1, 1998), NONE);
        Bench long1 = Edges.shelved("{'" + "n".repeat(1991) + "m':[]}");
        Bench.due("the last of a NAME", long1.press.character(0, 1, 0, 1991), 'm');
        Bench.due("behind it", long1.press.character(0, 1, 0, 1992), NONE);
    }

    private static void charactersThatAreNone() {
        Edges.says(14, "NONE if there is none such.");
        Bench bench = Edges.shelved("{'ab':'cde','l':['f'],'':''}");
        // 0 the whole, 1 "", 2 "cde", 3 the ARRAY, 4 "f".
        int[][] none = {{0, 0, 0}, {0, 1, 0}, {1, 0, 0}, {1, 1, 0}, {2, 0, 2}, {2, 1, 3}, {2, 0, -1}, {2, 1, -1},
            {2, 0, Edges.MOST}, {2, 1, Edges.MOST}, {2, 0, Edges.LEAST}, {2, 1, Edges.LEAST}, {2, 2, 0}, {2, -1, 0},
            {2, Edges.MOST, 0}, {2, Edges.LEAST, 0}, {3, 1, 0}, {3, 0, 1}, {4, 0, 0}, {4, 1, 1}, {5, 0, 0}, {5, 1, 0},
            {-1, 0, 0}, {-1, 1, 0}, {Edges.MOST, 1, 0}, {Edges.LEAST, 1, 0}, {500, 1, 0}};
        for (int[] call : none) {
            Bench.due("character(0, " + Arrays.toString(call) + ")",
                    bench.press.character(0, call[0], call[1], call[2]), NONE);
        }
        Bench.due("but these are there", bench.press.character(0, 2, 0, 1), 'b');
        Bench.due("but these are there", bench.press.character(0, 2, 1, 2), 'e');
        Bench.due("but these are there", bench.press.character(0, 4, 1, 0), 'f');
        for (int shelf : NO_SHELVES) {
            Edges.refuses("character(" + shelf + ", ..)", press -> press.character(shelf, 1, 0, 0), NONE);
        }
    }

    private static void same(String a, String b, int due) {
        Bench bench = Edges.shelved(a, b);
        Bench.due("same of " + a + " and " + b, bench.press.same(0, 0, 1, 0), due);
        Bench.due("same of " + b + " and " + a, bench.press.same(1, 0, 0, 0), due);
    }

    private static void sameOnes() {
        Edges.says(16, "Whether two VALUES are the same: null, truths;");
        String[] values = {"null", "true", "false", "0", "''", "[]", "{}", "1", "'null'", "[null]"};
        for (int i = 0; i < values.length; i++) {
            for (int j = 0; j < values.length; j++) {
                same(values[i], values[j], i == j ? 1 : 0);
            }
        }
    }

    private static void sameNumbers() {
        Edges.says(16, "numbers of the same BITS, 0 and -0 alike;");
        same("0", "-0", 1);
        same("0", "-1e-400", 1);
        same("0", "5e-324", 0);
        same("-0", "5e-324", 0);
        same("-0", "-5e-324", 0);
        same("5e-324", "-5e-324", 0);
        same("1", "-1", 0);
        same("1", "1.0000000000000002", 0);
        same("1", "1.00000000000000001", 1);
        same("100", "1e2", 1);
        same("9007199254740992", "9007199254740993", 1);
        same("9007199254740992", "9007199254740994", 0);
        same("1.7976931348623157e308", "1.7976931348623155e308", 0);
        same("[0]", "[-0]", 1);
    }

    private static void sameStringsAndArrays() {
        Edges.says(16, "STRINGS; ARRAYS part by part;");
        same("''", "' '", 0);
        same("'a'", "'aa'", 0);
        same("'a'", "'\\u0000'", 0);
        same("'ab'", "'ba'", 0);
        same("'\u00e9'", "'e\u0301'", 0);
        same("'" + "x".repeat(1997) + "y'", "'" + "x".repeat(1998) + "'", 0);
        same("'" + "x".repeat(1998) + "'", "'" + "x".repeat(1998) + "'", 1);
        same("[]", "[[]]", 0);
        same("[1,2]", "[2,1]", 0);
        same("[1,2]", "[1,2,3]", 0);
        same("[[1],2]", "[[1,2]]", 0);
        same("[[],[[]]]", "[[[]],[]]", 0);
        same("[" + "1,".repeat(498) + "1]", "[" + "1,".repeat(498) + "2]", 0);
        same("[" + "1,".repeat(498) + "1]", "[" + "1,".repeat(497) + "1]", 0);
        same("[" + "1,".repeat(498) + "1]", "[" + "1,".repeat(498) + "1]", 1);
    }

    private static void sameObjects() {
        Edges.says(16, "OBJECTS with the same NAMES, each with the same.");
        same("{'a':1,'b':2}", "{'b':2,'a':1}", 1);
        same("{'a':1,'b':2}", "{'b':1,'a':2}", 0);
        same("{'a':1}", "{'b':1}", 0);
        same("{'a':1}", "{'aa':1}", 0);
        same("{'':1}", "{'\\u0000':1}", 0);
        same("{'a':1}", "{'a':1,'b':1}", 0);
        same("{'a':null}", "{}", 0);
        same("{'a':{'b':-0}}", "{'a':{'b':0}}", 1);
        same("{'a':{'b':1},'c':2}", "{'a':{'b':1,'c':2}}", 0);
        same("{'0':1}", "[1]", 0);
        Bench bench = Edges.shelved("{'a':{'x':1},'b':{'x':1},'c':{'y':1}}");
        Bench.due("the own NAMES do not count", bench.press.same(0, 1, 0, 3), 1);
        Bench.due("those of the parts do", bench.press.same(0, 1, 0, 5), 0);
    }

    private static void sameRefuses() {
        Edges.says(16, "NONE if one is none;");
        for (int shelf : NO_SHELVES) {
            Edges.refuses("same(" + shelf + ", 0, 0, 0)", press -> press.same(shelf, 0, 0, 0), NONE);
            Edges.refuses("same(0, 0, " + shelf + ", 0)", press -> press.same(0, 0, shelf, 0), NONE);
        }
        for (int number : new int[] {-1, 6, 500, Edges.LEAST, Edges.MOST}) {
            Edges.refuses("same(0, " + number + ", 0, 0)", press -> press.same(0, number, 0, 0), NONE);
            Edges.refuses("same(0, 0, 0, " + number + ")", press -> press.same(0, 0, 0, number), NONE);
            Bench.due("both are none", Edges.shelved("1").press.same(0, number, 0, number), NONE);
        }
    }

    private static void sameAnswers() {
        Edges.says(16, "else 1, 0.");
        Bench bench = Edges.shelved("[1,[1],1]");
        int[][] due = {{1, 0, 0, 0, 0}, {0, 1, 0, 1, 1}, {0, 0, 1, 0, 0}, {0, 1, 0, 1, 1}, {0, 1, 0, 1, 1}};
        for (int i = 0; i < 5; i++) {
            for (int j = 0; j < 5; j++) {
                Bench.due("same(0, " + i + ", 0, " + j + ")", bench.press.same(0, i, 0, j), due[i][j]);
            }
        }
    }
}
