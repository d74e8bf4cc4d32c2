import java.io.ByteArrayOutputStream;

/** The Terms on TEXTS and their FAULTS, and promises 9 and 10: each boundary, from both of its sides. */
final class TextEdges {
    private static final int NONE = CanonPress.NONE;

    private TextEdges() {
    }

    static void all() {
        textsHaveSoManyBytes();
        blanksAreFour();
        valuesAreSeven();
        stringsHaveCharacters();
        escapesAreOfOneLetter();
        escapesAreOfFourDigits();
        surrogatesAreTwo();
        stringsAreTheirCharacters();
        deepAsThirty();
        manyAsFiveHundred();
        theFirstFaultIsTold();
        bytesThatCannotCome();
        theEndThatCannotCome();
        badUtf8();
        badEscapes();
        badSurrogates();
        endlessNumerals();
        secondNames();
        bothWhenTheyAreOver();
        tooDeep();
        tooMany();
        deepAheadOfMany();
        documentEmptiesTheTape();
        documentTellsItsFault();
        documentRefusesShelves();
        placeIsOfTheLatest();
        placeWithout();
    }

    private static void good(String text) {
        Edges.faults(text, 0, NONE);
    }

    private static void bad(String text, int place) {
        Edges.faults(text, 1, place);
    }

    /** A STRING with these bytes between its quotes. */
    private static byte[] quoted(int... row) {
        ByteArrayOutputStream text = new ByteArrayOutputStream();
        text.write('"');
        for (int b : row) {
            text.write(b);
        }
        text.write('"');
        return text.toByteArray();
    }

    /** The one CHARACTER of this STRING is this one. */
    private static void isCharacter(byte[] string, int due) {
        Bench bench = Edges.laid(string);
        String told = new String(string, java.nio.charset.StandardCharsets.ISO_8859_1);
        Bench.due("document() of " + told, bench.press.document(0), 0);
        Bench.due("how many CHARACTERS: " + told, bench.press.value(0, 0, 1), 1);
        Bench.due("CHARACTER 0 of " + told, bench.press.character(0, 0, 1, 0), due);
    }

    private static void isCharacter(String string, int due) {
        isCharacter(Bench.utf8(Edges.q(string)), due);
    }

    private static void textsHaveSoManyBytes() {
        Edges.says("A TEXT has at most 2000 bytes:");
        good("'" + "x".repeat(1998) + "'");
        good(" ".repeat(1999) + "7");
        good("7" + " ".repeat(1999));
        good("[" + " ".repeat(1998) + "]");
        bad("'" + "x".repeat(1999), 2000);
        bad(" ".repeat(2000), 2000);
        bad(" ".repeat(1999) + "x", 1999);
        Bench bench = Edges.laid("'" + "x".repeat(1998) + "'");
        Bench.due("not a byte more", bench.press.feed(0, 0, 0, 0, 0), NONE);
    }

    private static void blanksAreFour() {
        Edges.says("a DOCUMENT (RFC 8259, as RFC 7493 asks): blanks are 9, 10, 13, 32.");
        for (int b = 0; b < 256; b++) {
            boolean blank = b == 9 || b == 10 || b == 13 || b == 32;
            Edges.faults(Edges.bytes(b, ' ', '{', '}'), blank ? 0 : 1, blank ? NONE : blamedAhead(b));
            Edges.faults(Edges.bytes('{', '}', b), blank ? 0 : 1, blank ? NONE : 2);
            Edges.faults(Edges.bytes('{', b, '}'), blank ? 0 : 1, blank ? NONE : blamedWithin(b));
        }
        for (String blank : new String[] {"\t", "\n", "\r", " ", "\t\n\r \t\n\r "}) {
            String text = "@[@1@,@{@'a'@:@null@,@'b'@:@'x'@}@,@[@]@,@{@}@]@";
            Edges.forms(text.replace("@", blank), "[1,{'a':null,'b':'x'},[],{}]");
            bad("nul" + blank + "l", 3);
            bad("-" + blank + "1", 1);
            bad("1" + blank + ".5", 1 + blank.length());
            bad("1." + blank + "5", 2);
            bad("1e" + blank + "5", 2);
        }
        Edges.forms("' '", "' '");
        bad("\ufeff{}", 0);
        bad("\u00a0{}", 0);
    }

    /** Where `b {}` can't go on: a b that begins a VALUE is over, or is not gone on with, behind it. */
    private static int blamedAhead(int b) {
        if (b >= '0' && b <= '9') {
            return 2;
        }
        if (b == '"') {
            return 4;
        }
        if (b == '[') {
            return 4;
        }
        if (b == '{') {
            return 2;
        }
        return b == '-' || b == 'n' || b == 't' || b == 'f' ? 1 : 0;
    }

    /** Where `{b}` can't go on. */
    private static int blamedWithin(int b) {
        return b == '"' ? 3 : b == '}' ? 2 : 1;
    }

    private static void valuesAreSeven() {
        Edges.says("VALUES: null, true, false, a NUMERAL, a STRING, an ARRAY, an OBJECT (NAMES are STRINGS, no two alike).");
        String[] values = {"null", "false", "true", "0", "''", "[]", "{}"};
        for (int kind = 0; kind < values.length; kind++) {
            Bench.due("the kind of " + values[kind], Edges.shelved(values[kind]).press.value(0, 0, 0), kind);
            Edges.forms("[" + values[kind] + "]", "[" + values[kind] + "]");
            Edges.forms("{'':" + values[kind] + "}", "{'':" + values[kind] + "}");
        }
        for (String other : new String[] {"Null", "NULL", "True", "False", "undefined", "NaN", "x", "'", "(", "}", "]"}) {
            bad(other, other.equals("'") ? 1 : 0);
        }
        for (String name : new String[] {"null", "1", "a", "[]", "{}", "true"}) {
            bad("{" + name + ":1}", 1);
        }
        Edges.faults("{'a':1,'a':1}", 3, 7);
        good("{'a':1,'A':1,'':1,' ':1,'aa':1}");
        good("{'a':{'a':{'a':1}}}");
        good("[{'a':1},{'a':1}]");
        bad("[,]", 1);
        bad("[1,]", 3);
        bad("{,}", 1);
        bad("{'a':1,}", 7);
        bad("{'a'}", 4);
        bad("{'a':}", 5);
        bad("[1:2]", 2);
        bad("{'a',1}", 4);
    }

    private static void stringsHaveCharacters() {
        Edges.says("A STRING: \" , then CHARACTERS (Unicode scalar values, in UTF-8, from 32 on, but \" and a BACKSLASH, 92)");
        for (int b = 0; b < 128; b++) {
            if (b < 32) {
                Edges.faults(quoted(b), 1, 1);
                Edges.faults(quoted('x', b), 1, 2);
            } else if (b == '"') {
                Edges.faults(quoted(b), 1, 2);
            } else if (b == 92) {
                Edges.faults(quoted(b), 1, 3);
            } else {
                isCharacter(quoted(b), b);
            }
        }
        isCharacter(quoted(0xC2, 0x80), 0x80);
        isCharacter(quoted(0xDF, 0xBF), 0x7FF);
        isCharacter(quoted(0xE0, 0xA0, 0x80), 0x800);
        isCharacter(quoted(0xED, 0x9F, 0xBF), 0xD7FF);
        isCharacter(quoted(0xEE, 0x80, 0x80), 0xE000);
        isCharacter(quoted(0xEF, 0xB7, 0x90), 0xFDD0);
        isCharacter(quoted(0xEF, 0xBF, 0xBE), 0xFFFE);
        isCharacter(quoted(0xEF, 0xBF, 0xBF), 0xFFFF);
        isCharacter(quoted(0xF0, 0x90, 0x80, 0x80), 0x10000);
        isCharacter(quoted(0xF4, 0x8F, 0xBF, 0xBF), 0x10FFFF);
        Edges.faults(quoted(0xED, 0xA0, 0x80), 1, 2);
        Edges.faults(quoted(0xED, 0xBF, 0xBF), 1, 2);
        Edges.faults(quoted(0xF4, 0x90, 0x80, 0x80), 1, 2);
        Bench empty = Edges.shelved("''");
        Bench.due("an empty STRING", empty.press.value(0, 0, 1), 0);
    }

    private static void escapesAreOfOneLetter() {
        Edges.says("and ESCAPES: a BACKSLASH and one of \" BACKSLASH / b f n r t (8, 12, 10, 13, 9),");
        String letters = "\"\\/bfnrt";
        int[] due = {34, 92, 47, 8, 12, 10, 13, 9};
        for (int b = 0; b < 256; b++) {
            int which = letters.indexOf((char) b);
            if (which >= 0) {
                isCharacter(quoted(92, b), due[which]);
            } else if (b != 'u') {
                Edges.faults(quoted(92, b), 1, 2);
            }
        }
        Edges.faults(quoted(92, 'u'), 1, 3);
    }

    private static void escapesAreOfFourDigits() {
        Edges.says("or u and four hexadecimal digits, large or small");
        for (int place = 0; place < 4; place++) {
            for (int b = 0; b < 256; b++) {
                int[] escape = {92, 'u', '0', '0', '4', '1'};
                escape[2 + place] = b;
                int digit = b < 128 ? Character.digit((char) b, 16) : -1;
                int shift = 12 - 4 * place;
                if (digit >= 0) {
                    isCharacter(quoted(escape), 0x0041 & ~(15 << shift) | digit << shift);
                } else {
                    Edges.faults(quoted(escape), 1, 3 + place);
                }
            }
        }
        isCharacter("'\\u0000'", 0);
        isCharacter("'\\u001F'", 31);
        isCharacter("'\\u0022'", '"');
        isCharacter("'\\u005c'", 92);
        isCharacter("'\\uFfFf'", 0xFFFF);
        Bench five = Edges.shelved("'\\u00411'");
        Bench.due("a fifth digit is none", five.press.value(0, 0, 1), 2);
        Bench.due("it is a CHARACTER", five.press.character(0, 0, 1, 1), '1');
        bad("'\\u'", 3);
        bad("'\\u0'", 4);
        bad("'\\u00'", 5);
        bad("'\\u004'", 6);
        bad("'\\U0041'", 2);
    }

    private static void surrogatesAreTwo() {
        Edges.says("(of D800 .. DFFF only one of D800 .. DBFF, and one of DC00 .. DFFF as an ESCAPE right behind it,"
                + " which are one CHARACTER), then \" .");
        isCharacter("'\\uD7FF'", 0xD7FF);
        isCharacter("'\\uE000'", 0xE000);
        isCharacter("'\\uD800\\uDC00'", 0x10000);
        isCharacter("'\\uD800\\uDFFF'", 0x103FF);
        isCharacter("'\\uD801\\uDC00'", 0x10400);
        isCharacter("'\\uDBFF\\uDC00'", 0x10FC00);
        isCharacter("'\\uDBFF\\uDFFF'", 0x10FFFF);
        isCharacter("'\\udbff\\udfff'", 0x10FFFF);
        bad("'\\uD800'", 7);
        bad("'\\uDBFF'", 7);
        bad("'\\uDC00'", 6);
        bad("'\\uDFFF'", 6);
        bad("'\\uDC00\\uD800'", 6);
        bad("'\\uD800\\uD800\\uDC00'", 12);
        bad("'\\uD800\\uDBFF'", 12);
        bad("'\\uD800\\uE000'", 12);
        bad("'\\uD800 \\uDC00'", 7);
        bad("'\\uD800x\\uDC00'", 7);
        Bench two = Edges.shelved("'\\uD800\\uDC00\\uDBFF\\uDFFF'");
        Bench.due("two and two are two CHARACTERS", two.press.value(0, 0, 1), 2);
        bad("'\\uD800\\uDC00", 13);
        bad("'\\uD800\\uDC00\\uDC00'", 18);
    }

    private static void stringsAreTheirCharacters() {
        Edges.says("It is its CHARACTERS, however written.");
        String[][] pairs = {{"'A'", "'\\u0041'"}, {"'/'", "'\\/'"}, {"'/'", "'\\u002f'"}, {"'\\n'", "'\\u000A'"},
            {"'\\b'", "'\\u0008'"}, {"'\\\\'", "'\\u005C'"}, {"'\\\"'", "'\\u0022'"}, {"'\u00e9'", "'\\u00E9'"},
            {"'\ud83d\ude00'", "'\\uD83D\\uDE00'"}, {"'\uffff'", "'\\uffff'"}, {"'\u007f'", "'\\u007F'"},
            {"'\udbff\udfff'", "'\\udbff\\uDFFF'"}};
        for (String[] pair : pairs) {
            Bench bench = Edges.shelved(pair[0], pair[1], "{" + pair[0] + ":1}", "{" + pair[1] + ":1}");
            Bench.due("same: " + pair[1], bench.press.same(0, 0, 1, 0), 1);
            Bench.due("as NAMES: " + pair[1], bench.press.same(2, 0, 3, 0), 1);
            Bench.due("one form: " + pair[1], bench.formOf(0), bench.formOf(1));
            int second = 4 + Bench.utf8(pair[0]).length;
            Edges.faults("{" + pair[0] + ":1," + pair[1] + ":1}", 3, second);
        }
    }

    private static void deepAsThirty() {
        Edges.says("ARRAYS and OBJECTS lie within one another at most 30 deep (the outermost one is 1 deep);");
        String[] opens = {"[", "{'a':"};
        String[] closes = {"]", "}"};
        for (int kind = 0; kind < 2; kind++) {
            String open = opens[kind];
            String close = closes[kind];
            good(open.repeat(29) + "[]" + close.repeat(29));
            good(open.repeat(29) + "{}" + close.repeat(29));
            good(open.repeat(30) + "1" + close.repeat(30));
            good(open.repeat(30) + "''" + close.repeat(30));
            Edges.faults(open.repeat(30) + "[]" + close.repeat(30), 4, 30 * open.length());
            Edges.faults(open.repeat(30) + "{}" + close.repeat(30), 4, 30 * open.length());
        }
        good("[" + "[".repeat(29) + "]".repeat(29) + "," + "[".repeat(29) + "]".repeat(29) + "]");
        good("[{'a':".repeat(15) + "1" + "}]".repeat(15));
        good("[" + "[],".repeat(100) + "[]]");
        good("1");
        Bench bench = Edges.shelved("[".repeat(30) + "1" + "]".repeat(30));
        Bench.due("how deep the innermost VALUE lies", bench.press.value(0, 30, 5), 30);
    }

    private static void manyAsFiveHundred() {
        Edges.says("a DOCUMENT has at most 500 VALUES (NAMES are none).");
        String full = "[" + "1,".repeat(498) + "1]";
        Bench bench = Edges.shelved(full);
        Bench.due("500 VALUES", bench.press.value(0, 0, 4), 500);
        Bench.due("the last one", bench.press.value(0, 499, 0), 3);
        Bench.due("no other", bench.press.value(0, 500, 0), NONE);
        Edges.faults("[" + "1,".repeat(499) + "1]", 5, 999);
        String named = "[" + "{'':1},".repeat(249) + "1]";
        Bench.due("NAMES are none", Edges.shelved(named).press.value(0, 0, 4), 500);
        Edges.faults("[" + "{'':1},".repeat(249) + "1,1]", 5, 1746);
        Edges.faults("[" + "[],".repeat(498) + "[]]", 0, NONE);
        Edges.faults("[" + "[],".repeat(499) + "[]]", 5, 1498);
    }

    private static void theFirstFaultIsTold() {
        Edges.says("FAULTS of a TEXT, the first going on from the left, told at a byte (from 0 on):");
        bad("x", 0);
        bad("[x,1e999]", 1);
        Edges.faults("[1e999,x]", 2, 1);
        Edges.faults("{'a':1,'a':1e999}", 3, 7);
        Edges.faults("{'a':1e999,'a':1}", 2, 5);
        bad("{'a':1,'b'x,'a':1}", 10);
        Edges.faults("[".repeat(31) + "x", 4, 30);
        bad("[".repeat(29) + "x" + "[".repeat(3), 29);
        Edges.faults("[1e999," + "[".repeat(31), 2, 1);
        Edges.faults("[" + "1,".repeat(499) + "1,1e999,x", 5, 999);
        Edges.faults("[" + "1,".repeat(498) + "1e999,1", 2, 997);
        bad("['\\x',1e999", 3);
        Edges.faults("{'a':1,'a':'\\x'}", 3, 7);
        bad("{'a':1,'\\x':1,'a':1}", 9);
    }

    private static void bytesThatCannotCome() {
        Edges.says("1 a byte that can't come there, or begins what can't");
        for (int b = 0; b < 256; b++) {
            boolean blank = b == 9 || b == 10 || b == 13 || b == 32;
            // Behind a whole VALUE only blanks may come.
            Edges.faults(Edges.bytes('[', ']', b), blank ? 0 : 1, blank ? NONE : 2);
            // Behind a NAME a colon, within an ARRAY a comma or its end.
            badBytes(Edges.bytes('{', '"', '"', b), b == ':' || blank ? 4 : 3);
            boolean goesOn = blank || b == ',' || b == '.' || b == 'e' || b == 'E' || b == ']' || b >= '0' && b <= '9';
            badBytes(Edges.bytes('[', '1', b, '!'), goesOn ? 3 : 2);
            boolean inObject = blank || b == ',' || b == '}';
            badBytes(Edges.bytes('{', '"', '"', ':', '[', ']', b, '!'), inObject ? 7 : 6);
        }
        bad("nulx", 3);
        bad("nuxl", 2);
        bad("nxll", 1);
        bad("trux", 3);
        bad("falsx", 4);
        bad("nulll", 4);
        bad("truetrue", 4);
        bad("[1 2]", 3);
        bad("[1 'a']", 3);
        bad("[1[]]", 2);
        bad("[1{}]", 2);
        bad("['a''b']", 4);
        bad("{'a' 'b'}", 5);
        bad("{'a':1 'b':2}", 7);
        bad("{[]:1}", 1);
        bad("[1}", 2);
        bad("{'a':1]", 6);
        bad("01", 1);
        bad("-01", 2);
        bad("00", 1);
        bad("-x", 1);
        bad("--1", 1);
        bad("1.x", 2);
        bad("1.e5", 2);
        bad("1ex", 2);
        bad("1e+x", 3);
        bad("1e+-1", 3);
        bad("1.5.5", 3);
        bad("1e5e5", 3);
        bad("1e5.5", 3);
        bad("0x1", 1);
        bad("+1", 0);
        bad(".1", 0);
        bad("[0 .1]", 3);
    }

    private static void badBytes(byte[] text, int place) {
        Edges.faults(text, 1, place);
    }

    private static void theEndThatCannotCome() {
        Edges.says("(the end, too: at the TEXT's length):");
        String whole = " {'ab':[null,true,false,-0.5e+10,'x\\n\\u0041\\ud83d\\ude00\u00e9\u20ac\ud83d\ude00'],'b':{}}";
        byte[] bytes = Bench.utf8(Edges.q(whole));
        for (int length = 0; length < bytes.length; length++) {
            Edges.faults(java.util.Arrays.copyOf(bytes, length), 1, length);
        }
        Edges.faults(bytes, 0, NONE);
        for (String cut : new String[] {"", " ", "n", "nul", "tru", "fals", "-", "1.", "1e", "1e+", "1e-", "'", "'\\",
            "'\\u", "'\\u004", "'\\ud800", "'\\ud800\\", "'\\ud800\\u", "'\\ud800\\udc0", "[", "[1", "[1,", "{", "{'a'",
            "{'a':", "{'a':1", "{'a':1,", "{'a':1,'b"}) {
            bad(cut, cut.length());
        }
        bad("[".repeat(30), 30);
        bad("[" + "1,".repeat(499), 999);
        bad(" ".repeat(2000), 2000);
    }

    private static void badUtf8() {
        Edges.says("of UTF-8 the first byte by which there is no CHARACTER any more;");
        for (int lead = 0x80; lead < 0x100; lead++) {
            boolean none = lead < 0xC2 || lead > 0xF4;
            Edges.faults(quoted(lead), 1, none ? 1 : 2);
            for (int second = 0; second < 0x100 && !none; second++) {
                int least = lead == 0xE0 ? 0xA0 : lead == 0xF0 ? 0x90 : 0x80;
                int most = lead == 0xED ? 0x9F : lead == 0xF4 ? 0x8F : 0xBF;
                boolean whole = lead < 0xE0 && second >= least && second <= most;
                int place = second < least || second > most ? 2 : 3;
                Edges.faults(quoted(lead, second), whole ? 0 : 1, whole ? NONE : place);
            }
        }
        for (int b = 0; b < 0x100; b++) {
            boolean follows = b >= 0x80 && b <= 0xBF;
            Edges.faults(quoted(0xE1, 0x80, b), follows ? 0 : 1, follows ? NONE : 3);
            Edges.faults(quoted(0xF1, 0x80, b), 1, follows ? 4 : 3);
            Edges.faults(quoted(0xF4, 0x8F, 0xBF, b), follows ? 0 : 1, follows ? NONE : 4);
        }
        Edges.faults(Edges.bytes('"', 0xC3), 1, 2);
        Edges.faults(Edges.bytes('"', 0xE2, 0x82), 1, 3);
        Edges.faults(Edges.bytes('"', 0xF0, 0x9F, 0x98), 1, 4);
        Edges.faults(Edges.bytes('{', '"', 0xE2, '"', ':', '1', '}'), 1, 3);
        Edges.faults(Edges.bytes(0xC3, 0xA9), 1, 0);
    }

    private static void badEscapes() {
        Edges.says("of escapes the first byte that does not go on (behind D800 .. DBFF what is no BACKSLASH, then u, too),");
        bad("'\\x'", 2);
        bad("'a\\x'", 3);
        bad("'\\ux041'", 3);
        bad("'\\u0x41'", 4);
        bad("'\\u00x1'", 5);
        bad("'\\u004x'", 6);
        for (String high : new String[] {"'\\ud800", "'\\uDBFF"}) {
            bad(high + "'", 7);
            bad(high + "x'", 7);
            bad(high + "u'", 7);
            bad(high + "/udc00'", 7);
            bad(high + "\\'", 8);
            bad(high + "\\n'", 8);
            bad(high + "\\\\'", 8);
            bad(high + "\\U'", 8);
            bad(high + "\\ux", 9);
            bad(high + "\\udx00'", 10);
            bad(high + "\\udcx0'", 11);
            bad(high + "\\udc0x'", 12);
            bad(high + "\u00e9'", 7);
        }
        bad("{'\\x':1}", 3);
    }

    private static void badSurrogates() {
        Edges.says("or the last digit of one of DC00 .. DFFF that is not behind such a one, of another one that is;");
        bad("'\\uDC00'", 6);
        bad("'\\uDFFFx'", 6);
        bad("'\\udc00\\ud800'", 6);
        bad("'x\\uDC00'", 7);
        bad("'\\uDBFE\\uDFFF\\uDC00'", 18);
        bad("'\\uD7FF\\uDC00'", 12);
        bad("'\\uE000\\uDC00'", 12);
        for (String other : new String[] {"0041", "D7FF", "D800", "DBFF", "E000", "FFFF", "0000"}) {
            bad("'\\uD800\\u" + other + "'", 12);
            bad("'\\uDBFF\\u" + other + "'", 12);
        }
        good("'\\uD7FF\\uD800\\uDC00\\uE000'");
    }

    private static void endlessNumerals() {
        Edges.says("2 a NUMERAL that is endless,");
        String edge = java.math.BigInteger.TWO.pow(1024).subtract(java.math.BigInteger.TWO.pow(970)).toString();
        String under = new java.math.BigInteger(edge).subtract(java.math.BigInteger.ONE).toString();
        Edges.faults(edge, 2, 0);
        Edges.faults("-" + edge, 2, 0);
        Edges.faults("[" + edge + "]", 2, 1);
        good(under);
        good("-" + under + ".9");
        Edges.faults("1e309", 2, 0);
        Edges.faults("1e4294967296", 2, 0);
        Edges.faults("1e18446744073709551616", 2, 0);
        good("1e308");
        good("1e-400");
        good("0e999999999999");
        good("0." + "0".repeat(400) + "1e700");
        Edges.faults("{'a':-1e309}", 2, 5);
        good("{'1e999':'1e999'}");
    }

    private static void secondNames() {
        Edges.says("3 a NAME that the OBJECT has already");
        Edges.faults("{'a':1,'a':1}", 3, 7);
        Edges.faults("{'':1,'':1}", 3, 6);
        Edges.faults("{'a':1,'b':1,'c':1,'a':1}", 3, 19);
        Edges.faults("{'c':1,'b':1,'a':1,'c':1}", 3, 19);
        Edges.faults("{'c':1,'a':1,'b':1,'b':1}", 3, 19);
        Edges.faults("{'a':{'b':1},'c':1,'a':1}", 3, 19);
        Edges.faults("{'x':{'a':1,'a':1}}", 3, 12);
        Edges.faults("{'\uffff':1,'\ud800\udc00':1,'\uffff':1}", 3, 18);
        good("{'a':{'a':1},'b':{'a':1}}");
        good("{'a':1,'A':1,'a ':1,' a':1,'\u00e4':1,'a\\u0000':1}");
        good("{'\u00e9':1,'e\u0301':1}");
        String longName = "n".repeat(900);
        good("{'" + longName + "a':1,'" + longName + "b':1}");
        Edges.faults("{'" + longName + "a':1,'" + longName + "a':1}", 3, 907);
    }

    private static void bothWhenTheyAreOver() {
        Edges.says("(both at their first byte, when they are over);");
        Edges.faults("[1, 1e999]", 2, 4);
        Edges.faults("[1,-1e999 ]", 2, 3);
        Edges.faults("1e999x", 2, 0);
        Edges.faults("[1e999", 2, 1);
        Edges.faults("1e999.5", 2, 0);
        Edges.faults("1e999e1", 2, 0);
        good("1e99");
        bad("[1" + "0".repeat(400) + ".]", 403);
        bad("1" + "0".repeat(400) + "ex", 402);
        good("1" + "0".repeat(400) + "e-400");
        Edges.faults("{'a':1, 'a' :1}", 3, 8);
        Edges.faults("{'a':1,'\\u0061'x", 3, 7);
        Edges.faults("{'a':1,'a'", 3, 7);
        bad("{'a':1,'a", 9);
        bad("{'a':1,'a\\x':1}", 10);
        good("{'a':1,'ab':1}");
        good("{'ab':1,'a':1}");
    }

    private static void tooDeep() {
        Edges.says("4 the [ or { that would be 31 deep;");
        Edges.faults("[".repeat(31), 4, 30);
        Edges.faults("[".repeat(30) + "{", 4, 30);
        Edges.faults("[".repeat(30) + " \n[", 4, 32);
        Edges.faults("[".repeat(30) + "1,{", 4, 32);
        Edges.faults("{'a':".repeat(30) + "{", 4, 150);
        Edges.faults("{'a':".repeat(30) + "[", 4, 150);
        Edges.faults("[".repeat(30) + "]".repeat(10) + "," + "[".repeat(11), 4, 51);
        bad("[".repeat(30) + "1[", 31);
        bad("{'a':".repeat(29) + "{[", 146);
        bad("[".repeat(30) + "}", 30);
        good("[".repeat(30) + "]".repeat(30));
    }

    private static void tooMany() {
        Edges.says("5 the 501st VALUE, at its first byte");
        String full = "[" + "1,".repeat(499);
        for (String value : new String[] {"1", "-1", "null", "true", "false", "''", "[]", "{}", "-", "nulx", "'", "1e999"}) {
            Edges.faults(full + value, 5, 999);
            Edges.faults(full + " \n" + value, 5, 1001);
        }
        for (int b = 0; b < 256; b++) {
            byte[] text = java.util.Arrays.copyOf(Bench.utf8(full), 1000);
            text[999] = (byte) b;
            boolean blank = b == 9 || b == 10 || b == 13 || b == 32;
            boolean begins = b > 32 && b < 128 && "ntf\"[{-0123456789".indexOf((char) b) >= 0;
            Edges.faults(text, begins ? 5 : 1, blank ? 1000 : 999);
        }
        bad("[" + "1,".repeat(498) + "1]1", 999);
        String named = "[" + "1,".repeat(497) + "{'a':1,'b'";
        Edges.faults(named + " : 1}]", 5, 1008);
        Edges.faults(named.replace("'b'", "'a'") + ":1}]", 3, 1002);
        bad(named + "x", 1005);
        good("[" + "1,".repeat(497) + "{'a':1}]");
    }

    private static void deepAheadOfMany() {
        Edges.says("(4 ahead of 5).");
        String deep = "[".repeat(30) + "1,".repeat(470);
        Edges.faults(deep + "[", 4, 970);
        Edges.faults(deep + "{", 4, 970);
        Edges.faults(deep + "1", 5, 970);
        String lessDeep = "[".repeat(29) + "1,".repeat(471);
        Edges.faults(lessDeep + "[", 5, 971);
        Edges.faults("[".repeat(30) + "1,".repeat(469) + "[", 4, 968);
    }

    private static void documentEmptiesTheTape() {
        Edges.says(9, "The TAPE, empty then, is a TEXT: its DOCUMENT comes to a SHELF: 0;");
        for (int shelf = 0; shelf < 8; shelf++) {
            Bench bench = Edges.laid("[1]");
            Bench.due("document", bench.press.document(shelf), 0);
            Bench.due("the TAPE is empty", bench.press.about(0), 0);
            Bench.due("it came", bench.formOf(shelf), "[1]");
            Bench.due("to one SHELF", bench.press.about(2), 1);
        }
        Bench bench = Edges.shelved("[1,2,3]");
        bench.put(0, "7");
        Bench.due("in the place of what was there", bench.formOf(0), "7");
        Bench.due("still one SHELF", bench.press.about(2), 1);
        Bench.due("nothing is left over", bench.press.value(0, 1, 0), NONE);
        Bench.due("OUT stays", bench.outText(), "7");
        Bench.due("an empty TEXT is none", bench.press.document(0), 1);
    }

    private static void documentTellsItsFault() {
        Edges.says(9, "its FAULT (the SHELF stays).");
        String[] texts = {"[x", "1e999", "{'a':1,'a':1}", "[".repeat(31), "[" + "1,".repeat(499) + "1]"};
        for (int i = 0; i < texts.length; i++) {
            for (int shelf : new int[] {0, 2, 7}) {
                Bench bench = Edges.busy();
                String before = bench.formOf(shelf);
                bench.lay(Edges.q(texts[i]));
                Bench.due("document() of " + texts[i], bench.press.document(shelf), i + 1);
                Bench.due("the TAPE is empty", bench.press.about(0), 0);
                Bench.due("SHELF " + shelf + " stays", bench.formOf(shelf), before);
                Bench.due("how many SHELVES", bench.press.about(2), 7);
            }
        }
        // What a bad TEXT began leaves nothing in the next one.
        Bench bench = Edges.laid(Edges.q("{'a':[1,2,{'b':1,'b':2}]}"));
        Bench.due("document", bench.press.document(0), 3);
        bench.put(0, Edges.q("{'b':1,'a':2}"));
        Bench.due("form", bench.formOf(0), Edges.q("{'a':2,'b':1}"));
        bench.lay("[".repeat(30) + "x");
        Bench.due("document", bench.press.document(0), 1);
        bench.put(0, "[".repeat(30) + "]".repeat(30));
        bench.lay("[" + "1,".repeat(498) + "x");
        Bench.due("document", bench.press.document(0), 1);
        bench.put(0, "[" + "1,".repeat(498) + "1]");
    }

    private static void documentRefusesShelves() {
        Edges.says(9, "NONE, doing nothing, if there is no such SHELF.");
        for (int shelf : new int[] {-1, 8, Edges.LEAST, Edges.MOST, 256, -8}) {
            Edges.refuses("document(" + shelf + ")", press -> press.document(shelf), NONE);
        }
    }

    private static void placeIsOfTheLatest() {
        Edges.says(10, "Where the FAULT of the latest document() that was not NONE is;");
        Bench bench = Edges.laid("[1,x]");
        bench.press.document(0);
        Bench.due("place", bench.press.place(), 3);
        Bench.due("place again", bench.press.place(), 3);
        bench.lay("x");
        Bench.due("a refused one", bench.press.document(8), NONE);
        Bench.due("place stays", bench.press.place(), 3);
        bench.press.numeral();
        bench.press.print(0);
        Bench.due("other calls leave it", bench.press.place(), 3);
        bench.lay("x");
        bench.press.document(1);
        Bench.due("the latest", bench.press.place(), 0);
        bench.lay(" ".repeat(2000));
        bench.press.document(1);
        Bench.due("the greatest", bench.press.place(), 2000);
    }

    private static void placeWithout() {
        Edges.says(10, "NONE without.");
        Bench bench = new Bench();
        Bench.due("a new press", bench.press.place(), NONE);
        bench.lay("1");
        bench.press.document(9);
        Bench.due("behind a refused document()", bench.press.place(), NONE);
        bench.press.document(0);
        Bench.due("behind a good one", bench.press.place(), NONE);
        bench.lay("x");
        bench.press.document(0);
        bench.put(0, "1");
        Bench.due("behind a bad one and a good one", bench.press.place(), NONE);
        bench.press.document(9);
        Bench.due("and a refused one", bench.press.place(), NONE);
    }
}
