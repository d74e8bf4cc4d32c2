import java.util.Random;

/** Runs of calls at random (the same ones always), each answer held against the model's. */
public final class FuzzTest {
    private static final int CALLS = 512;
    private static final String[] NAMES = {"", "a", "b", "ab", "c", "\u00e9", "\uffff", "\ud83d\ude00", "~", "/",
        "0", "1", "~1", "\"", "\\", "\u0001", "\n"};
    private static final String[] NUMERALS = {"0", "-0", "1", "-1", "1.5", "1e21", "1e20", "1e-7", "12345678901234567890",
        "5e-324", "1e308", "0.1", "1e2", "100", "-2.50", "9007199254740993", "1e23", "123.456e-10"};
    private static final String[] ODD = {"1e309", "-1e999", "01", "1.", "nul", "\"\\ud800\"", "\"\\udc00\"", "[,]",
        "{\"a\":1,\"a\":2}", "tru", "\"\t\"", "-", "{1:2}", "\"\\x\"", "[1 2]", "{\"a\" 1}"};

    private final Random random;
    private final Bench bench = new Bench();
    private final CanonPress press = bench.press;
    private final Model model = new Model();
    private int calls = 0;

    private FuzzTest(long seed) {
        random = new Random(seed);
    }

    public static void main(String[] args) {
        int runs = args.length > 0 ? Integer.parseInt(args[0]) : 60;
        int start = args.length > 1 ? Integer.parseInt(args[1]) : 0;
        for (int seed = start; seed < start + runs; seed++) {
            new FuzzTest(seed).run();
        }
        Bench.close("FuzzTest");
    }

    private void run() {
        while (calls < CALLS) {
            step(random.nextInt(24));
        }
    }

    private void due(String call, long got, long want) {
        calls++;
        Bench.due("call " + calls + ": " + call, got, want);
    }

    private int shelf() {
        return random.nextInt(40) == 0 ? odd() : random.nextInt(random.nextBoolean() ? 3 : 8);
    }

    private int odd() {
        int[] odd = {-1, 8, -2, Integer.MAX_VALUE, Integer.MIN_VALUE, 500, 12000};
        return odd[random.nextInt(odd.length)];
    }

    private int number(int shelf) {
        if (random.nextInt(20) == 0) {
            return odd();
        }
        int count = Math.max(1, model.value(shelf, 0, 4));
        return random.nextInt(count + 1);
    }

    private long someBits() {
        switch (random.nextInt(5)) {
            case 0: return random.nextLong();
            case 1: return Double.doubleToRawLongBits(random.nextInt(2000000) / 1000.0);
            case 2: return random.nextLong() & 0x800FFFFFFFFFFFFFL;
            case 3: return 0x7FEFFFFFFFFFFFFFL + random.nextInt(4) - 1;
            default: return Double.doubleToRawLongBits(Double.parseDouble(pick(NUMERALS)));
        }
    }

    private String pick(String[] row) {
        return row[random.nextInt(row.length)];
    }

    private void step(int which) {
        int a = shelf();
        int b = shelf();
        int c = shelf();
        int n = number(a);
        int what = random.nextInt(8) - 1;
        long bits = someBits();
        int d = random.nextInt(10) == 0 ? odd() : 1 + random.nextInt(random.nextBoolean() ? 20 : 801);
        switch (which) {
            case 0: feedOdd(); break;
            case 1: due("end " + d, press.end(d), model.end(d)); break;
            case 2: due("take", press.take(), model.take()); break;
            case 3: lay(pick(NUMERALS)); due("numeral", press.numeral(), model.numeral()); break;
            case 4: due("print " + bits, press.print(bits), model.print(bits)); compareOut(); break;
            case 5: due("round " + bits + " " + d, press.round(bits, d), model.round(bits, d)); compareOut(); break;
            case 6: case 7: case 8: case 9: read(a, text()); break;
            case 10: due("form " + a + " " + n, press.form(a, n), model.form(a, n)); compareOut(); break;
            case 11: case 12: due("value", press.value(a, n, what), model.value(a, n, what)); break;
            case 13: due("bits", press.bits(a, n), model.bits(a, n)); break;
            case 14: due("character", press.character(a, n, what, c), model.character(a, n, what, c)); break;
            case 15: case 16: lay(pointer(a)); due("point", press.point(a), model.point(a)); break;
            case 17: sameOnes(a, n, b); break;
            case 18: case 19: due("merge", press.merge(a, b, c), model.merge(a, b, c)); whole(c); break;
            case 20: case 21: due("patch", press.patch(a, b, c), model.patch(a, b, c)); whole(c); break;
            case 22: due("part", press.part(a, n, c), model.part(a, n, c)); whole(c); break;
            default: due("about", press.about(what), model.about(what)); break;
        }
    }

    private void feedOdd() {
        int x = random.nextInt();
        due("feed", press.feed(x, 1, -2, 3, x), model.feed(x, 1, -2, 3, x));
        due("document", press.document(0), model.document(0));
        due("place", press.place(), model.place());
    }

    private void sameOnes(int a, int n, int b) {
        int its = random.nextBoolean() ? n : number(b);
        due("same", press.same(a, n, b, its), model.same(a, n, b, its));
        due("same", press.same(a, n, a, its), model.same(a, n, a, its));
    }

    private void compareOut() {
        Bench.due("about(1)", press.about(1), model.about(1));
        for (int i = 0; i <= model.about(1); i++) {
            if (press.out(i) != model.out(i)) {
                Bench.due("out(" + i + ")", press.out(i), model.out(i));
                return;
            }
        }
    }

    private void whole(int shelf) {
        Bench.due("form", press.form(shelf, 0), model.form(shelf, 0));
        compareOut();
        for (int number = 0; number <= Math.min(520, model.value(shelf, 0, 4)); number += 1 + number / 20) {
            for (int what = 0; what < 6; what++) {
                Bench.due("value", press.value(shelf, number, what), model.value(shelf, number, what));
            }
            Bench.due("bits", press.bits(shelf, number), model.bits(shelf, number));
            for (int i = 0; i < 3; i++) {
                Bench.due("name", press.character(shelf, number, 0, i), model.character(shelf, number, 0, i));
                Bench.due("string", press.character(shelf, number, 1, i), model.character(shelf, number, 1, i));
            }
        }
    }

    /** Both have this on their tapes, with no calls counted: a run may lay it in other ways. */
    private void lay(byte[] bytes) {
        bench.lay(bytes);
        model.end(0);
        for (int i = 0; i < bytes.length; i += 20) {
            int[] words = new int[5];
            for (int k = 0; k < 20; k++) {
                words[k / 4] = words[k / 4] << 8 | (i + k < bytes.length ? bytes[i + k] & 255 : 0);
            }
            model.feed(words[0], words[1], words[2], words[3], words[4]);
        }
        model.end(bytes.length);
    }

    private void lay(String text) {
        lay(Bench.utf8(text));
    }

    private void read(int shelf, byte[] text) {
        lay(text);
        String told = new String(text, java.nio.charset.StandardCharsets.ISO_8859_1);
        due("document " + shelf + " of " + told, press.document(shelf), model.document(shelf));
        due("place behind " + told, press.place(), model.place());
        due("about", press.about(0), model.about(0));
        whole(shelf);
    }

    private byte[] text() {
        StringBuilder text = new StringBuilder();
        switch (random.nextInt(12)) {
            case 0: deep(text); break;
            case 1: many(text, 480 + random.nextInt(25)); break;
            case 2: many(text, 150 + random.nextInt(200)); break;
            case 3: longStrings(text); break;
            default: value(text, 1 + random.nextInt(40), 5); break;
        }
        byte[] bytes = Bench.utf8(text.toString());
        if (bytes.length > 2000) {
            bytes = java.util.Arrays.copyOf(bytes, 2000);
        }
        if (random.nextInt(4) == 0 && bytes.length > 0) {
            spoil(bytes);
        }
        return bytes;
    }

    /** About as deep as can be, with a short value innermost. */
    private void deep(StringBuilder text) {
        int deep = 27 + random.nextInt(5);
        StringBuilder behind = new StringBuilder();
        for (int i = 0; i < deep; i++) {
            boolean array = random.nextBoolean();
            text.append(array ? "[" : random.nextInt(3) == 0 ? "{\"a\":null,\"b\":" : "{\"b\":");
            behind.insert(0, array ? "]" : random.nextInt(3) == 0 ? ",\"c\":1}" : "}");
        }
        value(text, 1 + random.nextInt(3), 2);
        text.append(behind);
    }

    /** About so many values; the last ones perhaps in something deep. */
    private void many(StringBuilder text, int howMany) {
        String name = pick(NAMES).replaceAll("[\"\\\\\\p{Cntrl}]", "x");
        int deep = random.nextInt(3) == 0 ? 29 : 0;
        text.append("{\"").append(name).append("\":[");
        text.append("[".repeat(deep));
        for (int i = 0; i < howMany - 2 - deep; i++) {
            text.append(i > 0 ? "," : "").append("\"\"17[]{}".substring(i % 3 * 2, i % 3 * 2 + (i % 3 == 1 ? 1 : 2)));
        }
        text.append("]".repeat(deep)).append(random.nextInt(3) == 0 ? ",{\"a\":[1],\"a\":2}]}" : "]}");
    }

    private void longStrings(StringBuilder text) {
        String letter = pick(new String[] {"x", "\u00e9", "\u20ac", "\ud83d\ude00"});
        int howMany = (1500 + random.nextInt(480)) / Bench.utf8(letter).length;
        text.append("{\"").append((char) ('a' + random.nextInt(6))).append("\":\"");
        text.append(letter.repeat(howMany)).append(random.nextBoolean() ? "\"}" : "\\u0001\",\"z\":null}");
    }

    private void spoil(byte[] bytes) {
        int at = random.nextInt(bytes.length);
        int[] odd = {0, 31, 34, 92, 44, 58, 91, 93, 123, 125, 48, 45, 46, 101, 117, 128, 191, 192, 194, 224, 237, 240,
            244, 245, 255};
        bytes[at] = (byte) (random.nextBoolean() ? odd[random.nextInt(odd.length)] : random.nextInt(256));
    }

    private void blanks(StringBuilder text) {
        if (random.nextInt(10) == 0) {
            text.append(" \t\r\n".charAt(random.nextInt(4)));
        }
    }

    private void value(StringBuilder text, int budget, int deepest) {
        blanks(text);
        int which = random.nextInt(10);
        if (budget > 1 && deepest > 0 && which < 9) {
            if (which < 3) {
                array(text, budget - 1, deepest - 1);
            } else {
                object(text, budget - 1, deepest - 1);
            }
        } else if (random.nextInt(300) == 0) {
            text.append(pick(ODD));
        } else if (which % 3 == 0) {
            text.append(pick(NUMERALS));
        } else if (which % 3 == 1) {
            string(text, random.nextInt(40) == 0 ? "long ".repeat(random.nextInt(200)) : pick(NAMES) + pick(NAMES));
        } else {
            text.append(pick(new String[] {"null", "true", "false", "null", "1"}));
        }
        blanks(text);
    }

    private void array(StringBuilder text, int budget, int deepest) {
        int parts = Math.min(budget, 1 + random.nextInt(6));
        text.append('[');
        for (int i = 0; i < parts; i++) {
            text.append(i > 0 ? "," : "");
            value(text, budget / parts, deepest);
        }
        text.append(']');
    }

    private void object(StringBuilder text, int budget, int deepest) {
        int parts = Math.min(budget, random.nextInt(6));
        java.util.Set<String> names = new java.util.LinkedHashSet<>();
        for (int i = 0; i < parts; i++) {
            names.add(random.nextInt(4) == 0 ? pick(NAMES) + pick(NAMES) : pick(NAMES));
        }
        text.append('{');
        String between = "";
        for (String name : names) {
            text.append(between);
            blanks(text);
            string(text, random.nextInt(200) == 0 ? "a" : name);
            blanks(text);
            text.append(':');
            value(text, budget / parts, deepest);
            between = ",";
        }
        text.append('}');
    }

    private void string(StringBuilder text, String string) {
        text.append('"');
        for (char c : string.toCharArray()) {
            int brief = "\"\\/\b\f\n\r\t".indexOf(c);
            boolean must = c < 32 || c == '"' || c == '\\';
            if (Character.isSurrogate(c)) {
                text.append(string.length() % 2 == 0 ? c : String.format("\\u%04X", (int) c));
            } else if (brief >= 0 && (must || random.nextBoolean())) {
                text.append('\\').append("\"\\/bfnrt".charAt(brief));
            } else if (must || random.nextInt(20) == 0) {
                text.append(String.format(random.nextBoolean() ? "\\u%04x" : "\\u%04X", (int) c));
            } else {
                text.append(c);
            }
        }
        text.append('"');
    }

    private byte[] pointer(int shelf) {
        StringBuilder text = new StringBuilder();
        if (random.nextBoolean()) {
            text.append(model.path(shelf, number(shelf)));
        }
        int tokens = random.nextInt(4) == 0 ? random.nextInt(5) : 0;
        for (int i = 0; i < tokens; i++) {
            String token = random.nextBoolean() ? "" + random.nextInt(4) : pick(NAMES);
            text.append('/').append(token.replace("~", "~0").replace("/", "~1"));
        }
        byte[] bytes = Bench.utf8(text.toString());
        if (random.nextInt(10) == 0 && bytes.length > 0) {
            int[] odd = {'~', '/', '0', 'x', 128, 255};
            bytes[random.nextInt(bytes.length)] = (byte) odd[random.nextInt(odd.length)];
        }
        return bytes;
    }
}
