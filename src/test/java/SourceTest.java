import java.io.IOException;
import java.nio.file.Files;
import java.nio.file.Paths;
import java.util.regex.Matcher;
import java.util.regex.Pattern;

/** The rules of LANGUAGE.md that can be seen in the source; it runs in the project's directory. */
public final class SourceTest {
    private static final String[] BANNED = {"throw", "throws", "try", "catch", "finally", "synchronized", "assert",
        "import", "package", "volatile", "transient", "native", "strictfp", "double", "float", "Object", "System\\.out",
        "System\\.err", "Thread", "Random", "Exact", "var", "yield", "record", "interface", "extends", "implements",
        "hashCode", "toString", "instanceof", "new String", "Integer\\.valueOf", "goto"};

    public static void main(String[] args) throws IOException {
        String source = Files.readString(Paths.get("src/main/java/CanonPress.java"));
        String bare = bare(source);
        for (String word : BANNED) {
            Bench.due("no " + word, !Pattern.compile("\\b" + word + "\\b").matcher(bare).find());
        }
        Bench.due("no lambda", !bare.contains("->"));
        Bench.due("no method reference", !bare.contains("::"));
        Bench.due("no static block", !Pattern.compile("static\\s*\\{").matcher(bare).find());
        Bench.due("no loop without a bound", !Pattern.compile("while\\s*\\(\\s*true|for\\s*\\(\\s*;").matcher(bare).find());
        Bench.due("no joining of texts by +", !Pattern.compile("\"\\s*\\+|\\+\\s*\"").matcher(bare).find());
        Bench.due("signs 1 to 127 alone", source.chars().allMatch(c -> c >= 1 && c <= 127));
        checkArraysMade(bare);
        checkMethods(bare);
        Bench.close("SourceTest");
    }

    /** Without comments, and with empty texts. */
    private static String bare(String source) {
        String signs = source.replaceAll("'(\\\\.|[^'\\\\])'", "'x'").replaceAll("\"(\\\\.|[^\"\\\\])*\"", "\"\"");
        return signs.replaceAll("(?s)/\\*.*?\\*/", "").replaceAll("//[^\n]*", "");
    }

    /** Rows are made with constant lengths, and in fields alone, so that no call makes any. */
    private static void checkArraysMade(String bare) {
        Matcher made = Pattern.compile("\\n( *)([^\\n]*\\bnew [^\\n]*)").matcher(bare);
        while (made.find()) {
            String line = made.group(2);
            boolean field = line.startsWith("private ") || line.startsWith("final ");
            boolean inConstructor = line.equals("shelves[i] = new Tree();");
            Bench.due("made once: " + line, field || inConstructor);
            Bench.due("a constant length: " + line, !line.contains("[") || inConstructor
                    || line.matches(".*new \\w+\\[[A-Z_]+\\];"));
        }
    }

    private static void checkMethods(String bare) {
        Matcher head = Pattern.compile("\\n( +)([\\w\\[\\] ]+)\\(([^)]*)\\) \\{\\n").matcher(bare);
        int found = 0;
        while (head.find()) {
            if (head.group(2).matches(".*\\b(if|for|while|switch|else|return|new)\\b.*")) {
                continue;
            }
            found++;
            int parameters = head.group(3).isEmpty() ? 0 : head.group(3).split(",").length;
            Bench.due("seven parameters at most: " + head.group(2), parameters <= 7);
            int end = bare.indexOf("\n" + head.group(1) + "}", head.end() - 1);
            long lines = bare.substring(head.start() + 1, end + 1).lines().count() + 1;
            Bench.due("sixty lines at most: " + head.group(2), lines <= 60);
        }
        Bench.due("methods are found", found > 100);
    }
}
