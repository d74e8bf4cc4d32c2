import java.io.IOException;
import java.lang.reflect.InvocationTargetException;
import java.lang.reflect.Method;
import java.nio.charset.StandardCharsets;
import java.nio.file.Files;
import java.nio.file.Paths;
import java.util.ArrayList;
import java.util.List;
import java.util.Set;
import java.util.TreeSet;
import java.util.regex.Matcher;
import java.util.regex.Pattern;

/** The examples of README.md answer what stands behind them; it runs in the project's directory. */
public final class ReadmeTest {
    private static final Pattern LAY = Pattern.compile("lay\\(press, \"(.*)\"\\);");
    private static final Pattern CALL = Pattern.compile("press\\.(\\w+)\\((.*?)\\); +// (-?\\d+)(.*)");
    private static final String OUT_IS = "OUT is ";

    private static final CanonPress press = new CanonPress();
    private static final Set<String> shown = new TreeSet<>();

    public static void main(String[] args) throws IOException, ReflectiveOperationException {
        String page = Files.readString(Paths.get("README.md"));
        String mine = squeezed(Files.readString(Paths.get("src/test/java/ReadmeTest.java")));
        for (String block : blocksOf(page)) {
            if (block.startsWith("/**")) {
                Bench.due("the page's way to lay a text is the one that is tested", mine.contains(squeezed(block)));
            } else {
                runLines(block);
            }
        }
        for (Method method : CanonPress.class.getDeclaredMethods()) {
            if ((method.getModifiers() & java.lang.reflect.Modifier.PUBLIC) != 0) {
                Bench.due("the examples call " + method.getName(), shown.contains(method.getName()));
                Bench.due("the table has " + method.getName(), page.contains("| `" + method.getName() + "("));
            }
        }
        Bench.close("ReadmeTest");
    }

    private static String squeezed(String text) {
        return text.replaceAll("\\s+", " ").trim();
    }

    private static List<String> blocksOf(String page) {
        List<String> blocks = new ArrayList<>();
        Matcher block = Pattern.compile("(?s)```java\n(.*?)```").matcher(page);
        while (block.find()) {
            blocks.add(block.group(1));
        }
        Bench.due("the page has examples", blocks.size() > 1);
        return blocks;
    }

    private static void runLines(String block) throws ReflectiveOperationException {
        for (String line : block.split("\n")) {
            Matcher text = LAY.matcher(line);
            Matcher call = CALL.matcher(line);
            if (text.matches()) {
                lay(press, text.group(1).translateEscapes());
            } else if (call.matches()) {
                runCall(line, call);
            } else {
                Bench.due("a line of an example", line, "CanonPress press = new CanonPress();");
            }
        }
    }

    private static void runCall(String line, Matcher call) throws ReflectiveOperationException {
        shown.add(call.group(1));
        Bench.due(line, answer(call.group(1), call.group(2)), Long.parseLong(call.group(3)));
        int at = call.group(4).indexOf(OUT_IS);
        if (at >= 0) {
            Bench.due(line, out(), call.group(4).substring(at + OUT_IS.length()));
        }
    }

    private static long answer(String name, String words)
            throws IllegalAccessException, InvocationTargetException {
        String[] parts = words.isEmpty() ? new String[0] : words.split(", ");
        for (Method method : CanonPress.class.getDeclaredMethods()) {
            if (method.getName().equals(name) && method.getParameterCount() == parts.length) {
                return ((Number) method.invoke(press, arguments(method, parts))).longValue();
            }
        }
        Bench.due("a call " + name + "(" + words + ")", false);
        return Long.MIN_VALUE;
    }

    private static Object[] arguments(Method method, String[] parts) {
        Object[] found = new Object[parts.length];
        for (int i = 0; i < parts.length; i++) {
            long number = Long.decode(parts[i].replace("L", ""));
            if (method.getParameterTypes()[i] == long.class) {
                found[i] = number;
            } else {
                found[i] = (int) number;
            }
        }
        return found;
    }

    private static String out() {
        byte[] bytes = new byte[press.about(1)];
        for (int i = 0; i < bytes.length; i++) {
            bytes[i] = (byte) press.out(i);
        }
        return new String(bytes, StandardCharsets.UTF_8);
    }

    /** The TAPE has this text and nothing else. */
    static void lay(CanonPress press, String text) {
        byte[] bytes = text.getBytes(java.nio.charset.StandardCharsets.UTF_8);
        press.end(0);
        for (int i = 0; i < bytes.length; i += 20) {
            press.feed(four(bytes, i), four(bytes, i + 4), four(bytes, i + 8), four(bytes, i + 12), four(bytes, i + 16));
        }
        press.end(bytes.length);
    }

    static int four(byte[] bytes, int at) {
        int four = 0;
        for (int i = at; i < at + 4; i++) {
            four = four << 8 | (i < bytes.length ? bytes[i] & 255 : 0);
        }
        return four;
    }
}
