import java.io.IOException;
import java.nio.file.Files;
import java.nio.file.Path;
import java.nio.file.Paths;
import java.util.Arrays;

/** Every sentence of the Terms and of the promises that names a boundary has a test of its own. */
public final class BoundaryTest {
    private static final Path DOCUMENT = Paths.get("../shared/DOC.md");
    private static final int PROMISES = 20;

    /** What the Terms say without naming a boundary; headings, too. */
    private static final String[] PLAIN = {"NUMBERS", "==== II. DOCUMENTS", "==== III.",
        "BITS are a long, a number as of binary64 (IEEE 754-2019).",
        "let k be how many they are, and n so that it is 0. DIGITS times 10^n."};

    public static void main(String[] args) throws IOException {
        NumberEdges.all();
        TextEdges.all();
        FormEdges.all();
        ShelfEdges.all();
        CallEdges.all();
        lastCallOfAll();
        Edges.checkThatItAsked();
        Bench.speakOf("");
        if (Files.isReadable(DOCUMENT)) {
            checkSayings(Files.readString(DOCUMENT));
        } else {
            System.out.println("BoundaryTest: no " + DOCUMENT + " here to hold the sayings against");
        }
        System.out.println("BoundaryTest: " + Edges.said.size() + " sayings");
        Bench.close("BoundaryTest");
    }

    /** An object is used for 512 calls at most: the 512th is answered as the first. */
    private static void lastCallOfAll() {
        Bench.speakOf("An object is used for at most 512 calls");
        CanonPress press = new CanonPress();
        press.feed(0x5B312C32, 0x5D202020, 0x20202020, 0x20202020, 0x20202020);
        Bench.due("document", press.document(7), 0);
        for (int call = 3; call < 512; call++) {
            Bench.due("call " + call, press.form(7, call % 3), call % 3 == 0 ? 5 : 1);
        }
        Bench.due("call 512", press.form(7, 0), 5);
    }

    /** The document has every saying where it is said to stand, and says nothing else. */
    private static void checkSayings(String document) {
        for (int section = 0; section <= PROMISES; section++) {
            String text = sectionOf(document, section);
            boolean[] quoted = new boolean[text.length()];
            for (Edges.Saying saying : Edges.said) {
                if (saying.section == section) {
                    Bench.due("section " + section + " says: " + saying.words, mark(text, saying.words, quoted));
                }
            }
            for (String plain : PLAIN) {
                Bench.due("the Terms say: " + plain, section > 0 || mark(text, plain, quoted));
            }
            Bench.due("what section " + section + " says and no test has", rest(text, quoted), "");
        }
    }

    private static String sectionOf(String document, int section) {
        String head = section == 0 ? "## Terms" : "## Promise " + section + ":";
        int start = document.indexOf(head);
        int end = start < 0 ? -1 : document.indexOf("\n## ", start + 1);
        if (start < 0 || end < 0) {
            return "";
        }
        String body = document.substring(document.indexOf('\n', start), end);
        String bare = body.replace("```text", " ").replace("```", " ");
        if (section > 0) {
            // The call's own face stands ahead of what is said of it.
            bare = bare.replaceFirst("`[^`]*`:", " ");
        }
        return bare.replaceAll("\\s+", " ").trim();
    }

    /** Marks the first place of these words that is not marked yet. */
    private static boolean mark(String text, String words, boolean[] quoted) {
        for (int at = text.indexOf(words); at >= 0; at = text.indexOf(words, at + 1)) {
            if (!quoted[at]) {
                Arrays.fill(quoted, at, at + words.length(), true);
                return true;
            }
        }
        return false;
    }

    private static String rest(String text, boolean[] quoted) {
        StringBuilder left = new StringBuilder();
        for (int i = 0; i < quoted.length; i++) {
            left.append(quoted[i] ? ' ' : text.charAt(i));
        }
        return left.toString().replaceAll("\\s+", " ").trim();
    }
}
