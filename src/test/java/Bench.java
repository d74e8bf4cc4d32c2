import java.nio.charset.StandardCharsets;

/** What the tests share: a press with its tape and OUT as texts, and a count of wrong answers. */
final class Bench {
    final CanonPress press = new CanonPress();
    private static int wrong = 0;
    private static int asked = 0;
    private static String topic = "";
    private static int toldOfTopic = 0;

    static void due(String call, long got, long want) {
        asked++;
        if (got != want) {
            tell(call + " answered " + got + ", due is " + want);
        }
    }

    static void due(String call, String got, String want) {
        asked++;
        if (!got.equals(want)) {
            tell(call + " answered <" + got + ">, due is <" + want + ">");
        }
    }

    static void due(String what, boolean holds) {
        asked++;
        if (!holds) {
            tell(what + " does not hold");
        }
    }

    /** Each topic has its say, however much is wrong ahead of it. */
    private static void tell(String line) {
        wrong++;
        toldOfTopic++;
        if (toldOfTopic <= (topic.isEmpty() ? 50 : 3)) {
            System.out.println(topic + (line.length() > 1000 ? line.substring(0, 1000) + " .." : line));
        }
    }

    /** Told ahead of every wrong answer from here on. */
    static void speakOf(String newTopic) {
        topic = newTopic.isEmpty() ? "" : "<" + newTopic + "> ";
        toldOfTopic = 0;
    }

    static int asked() {
        return asked;
    }

    /** Every test's main ends here. */
    static void close(String test) {
        System.out.println(test + ": " + asked + " answers, " + wrong + " wrong");
        System.exit(wrong > 0 || asked == 0 ? 1 : 0);
    }

    static byte[] utf8(String text) {
        return text.getBytes(StandardCharsets.UTF_8);
    }

    /** The tape has these bytes and no others. */
    void lay(byte[] bytes) {
        press.end(0);
        for (int i = 0; i < bytes.length; i += 20) {
            press.feed(four(bytes, i), four(bytes, i + 4), four(bytes, i + 8), four(bytes, i + 12),
                    four(bytes, i + 16));
        }
        due("end(" + bytes.length + ")", press.end(bytes.length), bytes.length);
    }

    private static int four(byte[] bytes, int at) {
        int word = 0;
        for (int i = at; i < at + 4; i++) {
            word = word << 8 | (i < bytes.length ? bytes[i] & 255 : 0);
        }
        return word;
    }

    void lay(String text) {
        lay(utf8(text));
    }

    byte[] outBytes() {
        byte[] bytes = new byte[press.about(1)];
        for (int i = 0; i < bytes.length; i++) {
            bytes[i] = (byte) press.out(i);
        }
        return bytes;
    }

    String outText() {
        return new String(outBytes(), StandardCharsets.UTF_8);
    }

    /** The shelf has this document. */
    void put(int shelf, String document) {
        lay(document);
        due("document(" + shelf + ") of " + document, press.document(shelf), 0);
    }

    String formOf(int shelf, int number) {
        int total = press.form(shelf, number);
        String form = total == CanonPress.NONE ? "none" : outText();
        if (total != CanonPress.NONE && total <= 12000) {
            due("form's length", outBytes().length, total);
        }
        return form;
    }

    String formOf(int shelf) {
        return formOf(shelf, 0);
    }
}
