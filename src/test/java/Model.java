import java.math.BigDecimal;
import java.math.MathContext;
import java.math.RoundingMode;
import java.nio.ByteBuffer;
import java.nio.CharBuffer;
import java.nio.charset.CharacterCodingException;
import java.nio.charset.StandardCharsets;
import java.util.ArrayList;
import java.util.Arrays;
import java.util.LinkedHashMap;
import java.util.List;
import java.util.Map;
import java.util.TreeMap;

/** The document once more, written with all of Java's library and in other ways than the press. */
final class Model {
    private static final int NONE = -1;

    /** null, Boolean, Double, String, List or TreeMap, whose order of Strings is that of UTF-16 units. */
    private final Object[] shelves = new Object[8];
    private final boolean[] has = new boolean[8];
    private byte[] tape = new byte[0];
    private byte[] out = new byte[0];
    private int place = NONE;

    private static final class Fault extends RuntimeException {
        private static final long serialVersionUID = 1;
        final int what;
        final int where;

        Fault(int what, int where) {
            this.what = what;
            this.where = where;
        }
    }

    /** A VALUE where it stands. */
    private static final class Spot {
        final Object value;
        final int owner;
        final int order;
        final int depth;
        final String name;

        Spot(Object value, int owner, int order, int depth, String name) {
            this.value = value;
            this.owner = owner;
            this.order = order;
            this.depth = depth;
            this.name = name;
        }
    }

    int feed(int a, int b, int c, int d, int e) {
        if (tape.length + 20 > 2000) {
            return NONE;
        }
        ByteBuffer more = ByteBuffer.allocate(tape.length + 20);
        more.put(tape).putInt(a).putInt(b).putInt(c).putInt(d).putInt(e);
        tape = more.array();
        return tape.length;
    }

    int end(int n) {
        if (n < 0 || n > tape.length) {
            return NONE;
        }
        tape = Arrays.copyOf(tape, n);
        return n;
    }

    int take() {
        if (Math.min(out.length, 12000) > 2000) {
            return NONE;
        }
        tape = out.clone();
        return tape.length;
    }

    private byte[] tear() {
        byte[] torn = tape;
        tape = new byte[0];
        return torn;
    }

    long numeral() {
        String text = new String(tear(), StandardCharsets.ISO_8859_1);
        if (!text.matches("-?(0|[1-9][0-9]*)(\\.[0-9]+)?([eE][+-]?[0-9]+)?") || text.endsWith("\n")) {
            return 0x7FF8000000000000L;
        }
        return Double.doubleToRawLongBits(Double.parseDouble(text));
    }

    private static boolean endless(long bits) {
        double number = Double.longBitsToDouble(bits);
        return Double.isNaN(number) || Double.isInfinite(number);
    }

    int print(long bits) {
        if (endless(bits)) {
            return NONE;
        }
        out = Bench.utf8(printed(Double.longBitsToDouble(bits)));
        return out.length;
    }

    int round(long bits, int d) {
        if (endless(bits) || d < 1 || d > 800) {
            return NONE;
        }
        BigDecimal exact = new BigDecimal(Double.longBitsToDouble(bits)).abs();
        exact = exact.round(new MathContext(d, RoundingMode.HALF_EVEN));
        String digits = exact.signum() == 0 ? "0" : exact.unscaledValue().toString();
        int power = exact.signum() == 0 ? 0 : digits.length() - 1 - exact.scale();
        digits = (digits + "0".repeat(d)).substring(0, d);
        out = Bench.utf8((bits < 0 ? "-" : "") + digits.charAt(0) + (d > 1 ? "." + digits.substring(1) : "")
                + (power < 0 ? "e-" : "e+") + Math.abs(power));
        return out.length;
    }

    static String printed(double number) {
        if (number == 0) {
            return "0";
        }
        if (number < 0) {
            return "-" + printed(-number);
        }
        BigDecimal exact = new BigDecimal(number);
        for (int d = 1; d < 17; d++) {
            BigDecimal near = exact.round(new MathContext(d, RoundingMode.HALF_EVEN));
            BigDecimal low = exact.round(new MathContext(d, RoundingMode.DOWN));
            BigDecimal high = exact.round(new MathContext(d, RoundingMode.UP));
            for (BigDecimal tried : new BigDecimal[] {near, low, high}) {
                if (tried.doubleValue() == number) {
                    return laidOut(tried.stripTrailingZeros());
                }
            }
        }
        return laidOut(exact.round(new MathContext(17, RoundingMode.HALF_EVEN)).stripTrailingZeros());
    }

    private static String laidOut(BigDecimal number) {
        String digits = number.unscaledValue().toString();
        int power = digits.length() - number.scale() - 1;
        if (power >= -6 && power < 21) {
            return number.toPlainString();
        }
        String behind = digits.length() > 1 ? "." + digits.substring(1) : "";
        return digits.charAt(0) + behind + "e" + (power < 0 ? "" : "+") + power;
    }

    int out(int i) {
        return i < 0 || i >= Math.min(12000, out.length) ? NONE : out[i] & 255;
    }

    int document(int shelf) {
        if (shelf < 0 || shelf > 7) {
            return NONE;
        }
        try {
            Object read = new Parser(tear()).whole();
            shelves[shelf] = read;
            has[shelf] = true;
            place = NONE;
            return 0;
        } catch (Fault fault) {
            place = fault.where;
            return fault.what;
        }
    }

    int place() {
        return place;
    }

    /** Goes down by recursion, as a grammar is written. */
    private static final class Parser {
        private final byte[] text;
        private int at = 0;
        private int values = 0;

        Parser(byte[] text) {
            this.text = text;
        }

        Object whole() {
            Object value = value(0);
            blanks();
            if (at < text.length) {
                throw new Fault(1, at);
            }
            return value;
        }

        private int peek() {
            return at < text.length ? text[at] & 255 : NONE;
        }

        private void expect(String wanted) {
            for (char c : wanted.toCharArray()) {
                if (peek() != c) {
                    throw new Fault(1, at);
                }
                at++;
            }
        }

        private void blanks() {
            while (peek() != NONE && " \t\r\n".indexOf(peek()) >= 0) {
                at++;
            }
        }

        private Object value(int deep) {
            blanks();
            int b = peek();
            if (b == NONE || "ntf\"[{-0123456789".indexOf(b) < 0) {
                throw new Fault(1, at);
            }
            if ((b == '[' || b == '{') && deep == 30) {
                throw new Fault(4, at);
            }
            values++;
            if (values > 500) {
                throw new Fault(5, at);
            }
            switch (b) {
                case 'n': expect("null"); return null;
                case 't': expect("true"); return true;
                case 'f': expect("false"); return false;
                case '"': return string();
                case '[': return array(deep + 1);
                case '{': return object(deep + 1);
                default: return number();
            }
        }

        private int digits() {
            int start = at;
            while (peek() >= '0' && peek() <= '9') {
                at++;
            }
            return at - start;
        }

        private void someDigits() {
            if (digits() == 0) {
                throw new Fault(1, at);
            }
        }

        private Object number() {
            int start = at;
            if (peek() == '-') {
                at++;
            }
            if (peek() == '0') {
                at++;
            } else {
                someDigits();
            }
            if (peek() == '.') {
                at++;
                someDigits();
            }
            if (peek() == 'e' || peek() == 'E') {
                at++;
                if (peek() == '+' || peek() == '-') {
                    at++;
                }
                someDigits();
            }
            double read = Double.parseDouble(new String(text, start, at - start, StandardCharsets.ISO_8859_1));
            if (Double.isInfinite(read)) {
                throw new Fault(2, start);
            }
            return read;
        }

        private List<Object> array(int deep) {
            List<Object> parts = new ArrayList<>();
            at++;
            blanks();
            if (peek() == ']') {
                at++;
                return parts;
            }
            while (true) {
                parts.add(value(deep));
                blanks();
                if (peek() == ']') {
                    at++;
                    return parts;
                }
                expect(",");
            }
        }

        private TreeMap<String, Object> object(int deep) {
            TreeMap<String, Object> parts = new TreeMap<>();
            at++;
            blanks();
            if (peek() == '}') {
                at++;
                return parts;
            }
            while (true) {
                blanks();
                int start = at;
                if (peek() != '"') {
                    throw new Fault(1, at);
                }
                String name = string();
                if (parts.containsKey(name)) {
                    throw new Fault(3, start);
                }
                blanks();
                expect(":");
                parts.put(name, value(deep));
                blanks();
                if (peek() == '}') {
                    at++;
                    return parts;
                }
                expect(",");
            }
        }

        private String string() {
            StringBuilder found = new StringBuilder();
            at++;
            while (peek() != '"') {
                if (peek() == '\\') {
                    escape(found);
                } else if (peek() < 32) {
                    throw new Fault(1, at);
                } else {
                    found.appendCodePoint(codePoint());
                }
            }
            at++;
            return found.toString();
        }

        /** The longest beginning that some bytes behind could still make a character. */
        private int codePoint() {
            for (int length = 1; length <= 4; length++) {
                if (at + length > text.length) {
                    throw new Fault(1, text.length);
                }
                CharBuffer whole = decoded(Arrays.copyOfRange(text, at, at + length));
                if (whole != null) {
                    at += length;
                    return Character.codePointAt(whole, 0);
                }
                if (!canGoOn(Arrays.copyOfRange(text, at, at + length))) {
                    throw new Fault(1, at + length - 1);
                }
            }
            throw new Fault(1, at + 3);
        }

        private static CharBuffer decoded(byte[] bytes) {
            try {
                return StandardCharsets.UTF_8.newDecoder().decode(ByteBuffer.wrap(bytes));
            } catch (CharacterCodingException e) {
                return null;
            }
        }

        private static boolean canGoOn(byte[] begun) {
            for (int length = begun.length + 1; length <= 4; length++) {
                byte[] least = Arrays.copyOf(begun, length);
                Arrays.fill(least, begun.length, length, (byte) 0x80);
                byte[] most = Arrays.copyOf(begun, length);
                Arrays.fill(most, begun.length, length, (byte) 0xBF);
                if (decoded(least) != null || decoded(most) != null) {
                    return true;
                }
            }
            return false;
        }

        private void escape(StringBuilder found) {
            at++;
            int which = "\"\\/bfnrtu".indexOf(peek() == NONE ? 'x' : (char) peek());
            if (which < 0) {
                throw new Fault(1, at);
            }
            at++;
            if (which < 8) {
                found.append("\"\\/\b\f\n\r\t".charAt(which));
                return;
            }
            char unit = unit();
            found.append(unit);
            if (Character.isLowSurrogate(unit)) {
                throw new Fault(1, at - 1);
            }
            if (Character.isHighSurrogate(unit)) {
                expect("\\u");
                char second = unit();
                if (!Character.isLowSurrogate(second)) {
                    throw new Fault(1, at - 1);
                }
                found.append(second);
            }
        }

        private char unit() {
            int unit = 0;
            for (int i = 0; i < 4; i++) {
                int digit = "0123456789abcdef".indexOf(Character.toLowerCase(peek() == NONE ? 'x' : (char) peek()));
                if (digit < 0) {
                    throw new Fault(1, at);
                }
                unit = 16 * unit + digit;
                at++;
            }
            return (char) unit;
        }
    }

    private boolean stands(int shelf) {
        return shelf >= 0 && shelf < 8 && has[shelf];
    }

    private List<Spot> spots(int shelf) {
        List<Spot> found = new ArrayList<>();
        if (stands(shelf)) {
            list(shelves[shelf], NONE, 0, 0, null, found);
        }
        return found;
    }

    @SuppressWarnings("unchecked")
    private static Map<String, Object> parts(Object value) {
        if (value instanceof TreeMap) {
            return (TreeMap<String, Object>) value;
        }
        Map<String, Object> parts = new LinkedHashMap<>();
        if (value instanceof List) {
            for (Object part : (List<Object>) value) {
                parts.put("" + parts.size(), part);
            }
        }
        return parts;
    }

    private static void list(Object value, int owner, int order, int depth, String name, List<Spot> found) {
        int mine = found.size();
        found.add(new Spot(value, owner, order, depth, name));
        int next = 0;
        for (Map.Entry<String, Object> part : parts(value).entrySet()) {
            String its = value instanceof TreeMap ? part.getKey() : null;
            list(part.getValue(), mine, next, depth + 1, its, found);
            next++;
        }
    }

    private Spot spot(int shelf, int number) {
        List<Spot> all = spots(shelf);
        return number >= 0 && number < all.size() ? all.get(number) : null;
    }

    private static int count(Object value) {
        int sum = 1;
        for (Object part : parts(value).values()) {
            sum += count(part);
        }
        return sum;
    }

    int form(int shelf, int number) {
        Spot spot = spot(shelf, number);
        if (spot == null) {
            return NONE;
        }
        StringBuilder text = new StringBuilder();
        write(spot.value, text);
        out = Bench.utf8(text.toString());
        return out.length;
    }

    private static void write(Object value, StringBuilder text) {
        if (value instanceof String) {
            quote((String) value, text);
        } else if (value instanceof Double) {
            text.append(printed((Double) value));
        } else if (value instanceof List || value instanceof TreeMap) {
            boolean object = value instanceof TreeMap;
            String between = object ? "{" : "[";
            for (Map.Entry<String, Object> part : parts(value).entrySet()) {
                text.append(between);
                if (object) {
                    quote(part.getKey(), text);
                    text.append(':');
                }
                write(part.getValue(), text);
                between = ",";
            }
            text.append(between.equals(",") ? "" : between).append(object ? "}" : "]");
        } else {
            text.append(value);
        }
    }

    private static void quote(String string, StringBuilder text) {
        text.append('"');
        for (char c : string.toCharArray()) {
            int two = "\"\\\b\t\n\f\r".indexOf(c);
            if (two >= 0) {
                text.append('\\').append("\"\\btnfr".charAt(two));
            } else if (c < 32) {
                text.append(String.format("\\u%04x", (int) c));
            } else {
                text.append(c);
            }
        }
        text.append('"');
    }

    private static int kind(Object value) {
        if (value == null) {
            return 0;
        }
        if (value instanceof Boolean) {
            return (Boolean) value ? 2 : 1;
        }
        return value instanceof Double ? 3 : value instanceof String ? 4 : value instanceof List ? 5 : 6;
    }

    private static int[] characters(String string) {
        return string.codePoints().toArray();
    }

    int value(int shelf, int number, int what) {
        Spot spot = spot(shelf, number);
        if (spot == null) {
            return NONE;
        }
        boolean string = spot.value instanceof String;
        switch (what) {
            case 0: return kind(spot.value);
            case 1: return string ? characters((String) spot.value).length : parts(spot.value).size();
            case 2: return spot.owner;
            case 3: return spot.order;
            case 4: return count(spot.value);
            case 5: return spot.depth;
            default: return NONE;
        }
    }

    long bits(int shelf, int number) {
        Spot spot = spot(shelf, number);
        boolean isNumber = spot != null && spot.value instanceof Double;
        return isNumber ? Double.doubleToRawLongBits((Double) spot.value) : 0;
    }

    int character(int shelf, int number, int which, int i) {
        Spot spot = spot(shelf, number);
        if (spot == null) {
            return NONE;
        }
        Object string = which == 0 ? spot.name : which == 1 ? spot.value : null;
        if (!(string instanceof String)) {
            return NONE;
        }
        int[] all = characters((String) string);
        return i >= 0 && i < all.length ? all[i] : NONE;
    }

    /** A POINTER to the VALUE; nothing if there is none such. */
    String path(int shelf, int number) {
        Spot spot = spot(shelf, number);
        if (spot == null || spot.owner == NONE) {
            return "";
        }
        String token = spot.name == null ? "" + spot.order : spot.name.replace("~", "~0").replace("/", "~1");
        return path(shelf, spot.owner) + "/" + token;
    }

    int point(int shelf) {
        CharBuffer decoded = Parser.decoded(tear());
        String text = decoded == null ? "~" : decoded.toString();
        boolean begins = text.isEmpty() || text.charAt(0) == '/';
        if (!begins || text.replaceAll("~[01]", "").contains("~") || !stands(shelf)) {
            return -2;
        }
        int found = 0;
        String[] tokens = text.split("/", -1);
        for (int i = 1; i < tokens.length && found != NONE; i++) {
            found = child(spots(shelf), found, tokens[i].replace("~1", "/").replace("~0", "~"));
        }
        return found;
    }

    private static int child(List<Spot> all, int owner, String token) {
        boolean object = all.get(owner).value instanceof TreeMap;
        for (int i = owner + 1; i < all.size(); i++) {
            Spot spot = all.get(i);
            if (spot.owner == owner && token.equals(object ? spot.name : "" + spot.order)) {
                return i;
            }
        }
        return NONE;
    }

    private static boolean alike(Object a, Object b) {
        if (a instanceof Double && b instanceof Double) {
            return ((Double) a).doubleValue() == ((Double) b).doubleValue();
        }
        if (kind(a) != kind(b)) {
            return false;
        }
        if (kind(a) < 5) {
            return a == null || a.equals(b);
        }
        Map<String, Object> mine = parts(a);
        Map<String, Object> its = parts(b);
        boolean all = mine.keySet().equals(its.keySet());
        for (Map.Entry<String, Object> part : mine.entrySet()) {
            all = all && alike(part.getValue(), its.get(part.getKey()));
        }
        return all;
    }

    int same(int shelf, int number, int other, int its) {
        Spot a = spot(shelf, number);
        Spot b = spot(other, its);
        return a == null || b == null ? NONE : alike(a.value, b.value) ? 1 : 0;
    }

    private static Object merged(Object target, Object patch) {
        if (!(patch instanceof TreeMap)) {
            return patch;
        }
        TreeMap<String, Object> made = new TreeMap<>();
        if (target instanceof TreeMap) {
            made.putAll(parts(target));
        }
        for (Map.Entry<String, Object> part : parts(patch).entrySet()) {
            if (part.getValue() == null) {
                made.remove(part.getKey());
            } else {
                made.put(part.getKey(), merged(made.get(part.getKey()), part.getValue()));
            }
        }
        return made;
    }

    private static int bytes(Object value) {
        if (value instanceof String) {
            return Bench.utf8((String) value).length;
        }
        int sum = 0;
        for (Map.Entry<String, Object> part : parts(value).entrySet()) {
            sum += bytes(part.getValue()) + (value instanceof TreeMap ? Bench.utf8(part.getKey()).length : 0);
        }
        return sum;
    }

    private int bring(Object value, int to) {
        if (count(value) > 500 || bytes(value) > 4000) {
            return NONE;
        }
        shelves[to] = value;
        has[to] = true;
        return count(value);
    }

    int merge(int target, int patch, int to) {
        if (!stands(target) || !stands(patch) || to < 0 || to > 7) {
            return NONE;
        }
        return bring(merged(shelves[target], shelves[patch]), to);
    }

    private static boolean hasNullPart(Object value) {
        if (!(value instanceof TreeMap)) {
            return false;
        }
        for (Object part : parts(value).values()) {
            if (part == null || hasNullPart(part)) {
                return true;
            }
        }
        return false;
    }

    private static Object patched(Object a, Object b) {
        if (!(a instanceof TreeMap) || !(b instanceof TreeMap)) {
            if (hasNullPart(b)) {
                throw new Fault(0, 0);
            }
            return b;
        }
        TreeMap<String, Object> made = new TreeMap<>();
        for (String name : parts(a).keySet()) {
            if (!parts(b).containsKey(name)) {
                made.put(name, null);
            }
        }
        for (Map.Entry<String, Object> part : parts(b).entrySet()) {
            boolean known = parts(a).containsKey(part.getKey());
            Object old = parts(a).get(part.getKey());
            if (known && alike(old, part.getValue())) {
                continue;
            }
            if (part.getValue() == null) {
                throw new Fault(0, 0);
            }
            made.put(part.getKey(), patched(old, part.getValue()));
        }
        return made;
    }

    int patch(int from, int into, int to) {
        if (!stands(from) || !stands(into) || to < 0 || to > 7) {
            return NONE;
        }
        try {
            return bring(patched(shelves[from], shelves[into]), to);
        } catch (Fault none) {
            return -2;
        }
    }

    int part(int shelf, int number, int to) {
        Spot spot = spot(shelf, number);
        return spot == null || to < 0 || to > 7 ? NONE : bring(spot.value, to);
    }

    int about(int what) {
        int documents = 0;
        for (boolean one : has) {
            documents += one ? 1 : 0;
        }
        return what == 0 ? tape.length : what == 1 ? Math.min(12000, out.length) : what == 2 ? documents : NONE;
    }
}
