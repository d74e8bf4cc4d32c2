import java.util.ArrayList;
import java.util.List;
import java.util.function.ToLongFunction;

/** What the edge tests share: the document's own words, and behind them the answers that they ask for. */
final class Edges {
    static final int NONE = CanonPress.NONE;
    static final int TERMS = 0;
    static final int LEAST = Integer.MIN_VALUE;
    static final int MOST = Integer.MAX_VALUE;

    /** Words of the document, with the promise that has them, or 0 for the Terms. */
    static final class Saying {
        final int section;
        final String words;

        Saying(int section, String words) {
            this.section = section;
            this.words = words;
        }
    }

    static final List<Saying> said = new ArrayList<>();
    private static int askedBefore = 0;

    private Edges() {
    }

    /** The answers from here to the next such call are those that these words ask for. */
    static void says(int section, String words) {
        checkThatItAsked();
        said.add(new Saying(section, words));
        Bench.speakOf((section == TERMS ? "Terms" : "promise " + section) + ": " + words);
    }

    static void says(String words) {
        says(TERMS, words);
    }

    /** Words without a single answer behind them would be no test. */
    static void checkThatItAsked() {
        if (!said.isEmpty()) {
            int before = askedBefore;
            Bench.due("something is asked", Bench.asked() > before);
        }
        askedBefore = Bench.asked();
    }

    /** JSON is easier to read here with ' for its quotes. */
    static String q(String text) {
        return text.replace('\'', '"');
    }

    static byte[] bytes(int... row) {
        byte[] made = new byte[row.length];
        for (int i = 0; i < row.length; i++) {
            made[i] = (byte) row[i];
        }
        return made;
    }

    static Bench laid(byte[] tape) {
        Bench bench = new Bench();
        bench.lay(tape);
        return bench;
    }

    static Bench laid(String tape) {
        return laid(Bench.utf8(tape));
    }

    /** A press with these documents on its first shelves. */
    static Bench shelved(String... documents) {
        Bench bench = new Bench();
        for (int i = 0; i < documents.length; i++) {
            bench.put(i, q(documents[i]));
        }
        return bench;
    }

    /** A new press answers so to a TEXT; and with NONE for its place if there is no FAULT. */
    static void faults(byte[] text, int fault, int place) {
        Bench bench = laid(text);
        String told = new String(text, java.nio.charset.StandardCharsets.ISO_8859_1);
        Bench.due("document() of " + told, bench.press.document(0), fault);
        Bench.due("place() behind " + told, bench.press.place(), place);
        Bench.due("about(2) behind " + told, bench.press.about(2), fault == 0 ? 1 : 0);
    }

    static void faults(String text, int fault, int place) {
        faults(Bench.utf8(q(text)), fault, place);
    }

    static void forms(String text, String due) {
        Bench bench = shelved(text);
        Bench.due("form of " + text, bench.formOf(0), q(due));
    }

    /** A press whose SHELF 0 has a form of so many bytes, which ends with x"}. */
    static Bench withFormOf(int length) {
        Bench bench = shelved("{'a':[" + "9e20,".repeat(330) + "9e20]}", "{'b':[" + "8e20,".repeat(150) + "8e20]}");
        Bench.due("merge", bench.press.merge(0, 1, 0), 1 + 332 + 152);
        int left = length - bench.press.form(0, 0) - ",\"c\":\"\"".length();
        String text = "\\u001f".repeat(left / 6 - 1) + "x".repeat(left % 6 + 6);
        bench.put(1, q("{'c':'" + text + "'}"));
        Bench.due("merge", bench.press.merge(0, 1, 0), 1 + 332 + 152 + 1);
        return bench;
    }

    /** A press with something of everything: shelves, a TAPE, an OUT and a FAULT's place. */
    static Bench busy() {
        Bench bench = shelved("{'a':[1,'x'],'b':null,'c':-0}", "{'b':{'d':2},'n':null}",
                "[" + "1,".repeat(498) + "1]", "{'s':'" + "x".repeat(1990) + "'}", "{'t':'" + "y".repeat(1990) + "'}",
                "{'z':[" + "1,".repeat(300) + "1]}", "{'y':[" + "1,".repeat(300) + "1]}");
        Bench.due("merge", bench.press.merge(3, 4, 4), 3);
        bench.lay("[1,x]");
        Bench.due("document", bench.press.document(2), 1);
        bench.press.print(Double.doubleToLongBits(-12.5));
        bench.lay("\"what the tape has\"");
        return bench;
    }

    /** All that can be asked of a press; asking for the TAPE changes it, so it comes last. */
    static String stateOf(Bench bench) {
        CanonPress press = bench.press;
        StringBuilder state = new StringBuilder();
        for (int what = 0; what < 3; what++) {
            state.append(press.about(what)).append(' ');
        }
        state.append(press.place()).append(" OUT ").append(bench.outText());
        for (int shelf = 0; shelf < 8; shelf++) {
            state.append(" SHELF ").append(shelf).append(' ').append(bench.formOf(shelf));
            state.append(' ').append(press.bits(shelf, 5));
        }
        state.append(" TAPE ").append(press.document(7)).append(' ').append(press.place()).append(bench.formOf(7));
        return state.toString();
    }

    /** The call answers so, and all is as if it had not been. */
    static void refuses(String call, ToLongFunction<CanonPress> asked, long due) {
        Bench bench = busy();
        Bench.due(call, asked.applyAsLong(bench.press), due);
        Bench.due("the state behind " + call, stateOf(bench), stateOf(busy()));
    }

    /** The call answers so, the TAPE is empty then, and all else is as if it had not been. */
    static void refusesAndEmpties(String call, String tape, ToLongFunction<CanonPress> asked, long due) {
        Bench bench = busy();
        bench.lay(tape);
        Bench.due(call + " of " + tape, asked.applyAsLong(bench.press), due);
        Bench other = busy();
        other.press.end(0);
        Bench.due("the state behind " + call, stateOf(bench), stateOf(other));
    }
}
