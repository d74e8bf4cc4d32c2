import java.math.BigDecimal;
import java.math.BigInteger;
import java.math.MathContext;
import java.math.RoundingMode;
import java.util.Random;

/** Promises 5 to 7: numerals are read, numbers are printed and rounded. */
public final class NumberTest {
    private static final long NO_NUMBER = 9221120237041090560L;
    private static final Bench bench = new Bench();

    public static void main(String[] args) {
        readsNumerals();
        readsHalfways();
        refusesOthers();
        printsKnown();
        printsAtLimits();
        roundsKnown();
        refusesEndless();
        atRandom();
        Bench.close("NumberTest");
    }

    private static long read(String numeral) {
        bench.lay(numeral);
        long bits = bench.press.numeral();
        Bench.due("the tape is empty behind numeral() of " + numeral, bench.press.about(0), 0);
        return bits;
    }

    private static void reads(String numeral, double due) {
        Bench.due("numeral() of " + numeral, read(numeral), Double.doubleToRawLongBits(due));
    }

    private static String printed(double number) {
        long bits = Double.doubleToRawLongBits(number);
        int length = bench.press.print(bits);
        Bench.due("print's length", length, bench.press.about(1));
        return bench.outText();
    }

    private static void prints(double number, String due) {
        Bench.due("print of " + number, printed(number), due);
    }

    private static String rounded(double number, int d) {
        int length = bench.press.round(Double.doubleToRawLongBits(number), d);
        Bench.due("round's length", length, bench.press.about(1));
        return bench.outText();
    }

    private static void rounds(double number, int d, String due) {
        Bench.due("round of " + number + " to " + d, rounded(number, d), due);
    }

    private static void readsNumerals() {
        String[] numerals = {"0", "-0", "1", "-1", "0.1", "0.30000000000000004", "1e22", "1E23", "1e+5",
            "1e-5", "1e00005", "0e999999999999", "-0e5", "-0.000", "0.0e-5", "123456789012345678901",
            "4.9e-324", "5e-324", "2.4703282292062327e-324", "2.4703282292062328e-324", "1e-400",
            "-1e-400", "1.7976931348623157e308", "1.7976931348623158e308", "2.2250738585072011e-308",
            "2.2250738585072014e-308", "9007199254740993", "9007199254740995", "1e308", "1e309", "-1e309",
            "1e99999999999999999999", "1e-99999999999999999999", "100000000000000000000000000000000e-32"};
        for (String numeral : numerals) {
            reads(numeral, Double.parseDouble(numeral));
        }
        reads("0." + "0".repeat(1900) + "1e1901", 1.0);
        reads("1" + "0".repeat(1900) + "e-1900", 1.0);
        reads("0".repeat(1) + "." + "0".repeat(1990) + "1", 0.0);
        reads("9".repeat(1995), Double.POSITIVE_INFINITY);
        reads("-" + "9".repeat(1995), Double.NEGATIVE_INFINITY);
        reads("9".repeat(1900) + "e-1900", 1.0);
        Bench.due("-0", read("-0"), Long.MIN_VALUE);
        Bench.due("-1e-400", read("-1e-400"), Long.MIN_VALUE);
        Bench.due("endless", read("1e400"), 0x7FF0000000000000L);
    }

    /** What lies just between two numbers, and by the least possible beside it. */
    private static void readsHalfways() {
        Random random = new Random(5);
        long[] starts = {0, 1, 2, 0x000FFFFFFFFFFFFFL, 0x0010000000000000L, 0x0010000000000001L,
            0x001FFFFFFFFFFFFFL, 0x0020000000000000L, 0x3FF0000000000000L, 0x3FEFFFFFFFFFFFFFL,
            0x7FEFFFFFFFFFFFFEL, 0x7FE0000000000000L, 0x433FFFFFFFFFFFFFL};
        for (int i = 0; i < 300; i++) {
            long low = i < starts.length ? starts[i] : random.nextLong() & 0x7FEFFFFFFFFFFFFEL;
            BigDecimal below = new BigDecimal(Double.longBitsToDouble(low));
            BigDecimal above = new BigDecimal(Double.longBitsToDouble(low + 1));
            BigDecimal half = below.add(above).divide(BigDecimal.valueOf(2));
            String plain = half.unscaledValue().toString();
            int scale = half.scale();
            long even = (low & 1) == 0 ? low : low + 1;
            Bench.due("halfway", read(plain + "e" + -scale), even);
            Bench.due("halfway with 0s", read(plain + "0".repeat(900) + "e" + (-scale - 900)), even);
            Bench.due("above halfway", read(plain + "0".repeat(900) + "1e" + (-scale - 901)), low + 1);
            String less = half.unscaledValue().subtract(BigInteger.ONE).toString();
            Bench.due("below halfway", read(less + "9".repeat(900) + "e" + (-scale - 900)), low);
        }
        BigInteger edge = BigInteger.TWO.pow(1024).subtract(BigInteger.TWO.pow(970));
        Bench.due("the edge", read(edge.toString()), 0x7FF0000000000000L);
        Bench.due("below 0", read("-" + edge), 0xFFF0000000000000L);
        Bench.due("under it", read(edge.subtract(BigInteger.ONE).toString()), 0x7FEFFFFFFFFFFFFFL);
        Bench.due("over the half of the least", read("2.4703282292062327208e-324"), 0);
    }

    private static void refusesOthers() {
        String[] others = {"", "-", "+1", "01", "-01", "00", ".5", "1.", "1.e5", "1e", "1e+", "1e-", "1 ",
            " 1", "1.5.5", "0x1", "1e5.5", "NaN", "Infinity", "-Infinity", "1,5", "1_0", "--1", "1-", "e5",
            "1e5e5", "\u0661", "1\u0000", "-.5", "1f", "1d"};
        for (String other : others) {
            Bench.due("numeral() of " + other, read(other), NO_NUMBER);
        }
    }

    private static void printsKnown() {
        prints(0.0, "0");
        prints(-0.0, "0");
        prints(1, "1");
        prints(-1.5, "-1.5");
        prints(1e20, "100000000000000000000");
        prints(1e21, "1e+21");
        prints(123456789012345680000.0, "123456789012345680000");
        prints(1.5e21, "1.5e+21");
        prints(999999999999999900000.0, "999999999999999900000");
        prints(1e-6, "0.000001");
        prints(1e-7, "1e-7");
        prints(1.25e-7, "1.25e-7");
        prints(0.000001234, "0.000001234");
        prints(123.456, "123.456");
        prints(1e100, "1e+100");
        prints(-1e-100, "-1e-100");
        prints(5e-324, "5e-324");
        prints(1e-323, "1e-323");
        prints(Double.MAX_VALUE, "1.7976931348623157e+308");
        prints(Double.MIN_NORMAL, "2.2250738585072014e-308");
        prints(2e-323, "2e-323");
        prints(1e23, "1e+23");
        prints(9.5e-7, "9.5e-7");
        prints(0.1, "0.1");
        prints(0.30000000000000004, "0.30000000000000004");
        prints(9007199254740991.0, "9007199254740991");
        prints(9007199254740992.0, "9007199254740992");
        prints(333333333.33333329, "333333333.3333333");
        prints(4.50, "4.5");
        prints(2e-3, "0.002");
        prints(1e-27, "1e-27");
        // RFC 8785, appendix B.
        printsBits(0x0000000000000001L, "5e-324");
        printsBits(0x8000000000000001L, "-5e-324");
        printsBits(0x4340000000000000L, "9007199254740992");
        printsBits(0xc340000000000000L, "-9007199254740992");
        printsBits(0x4430000000000000L, "295147905179352830000");
        printsBits(0x44b52d02c7e14af5L, "9.999999999999997e+22");
        printsBits(0x44b52d02c7e14af6L, "1e+23");
        printsBits(0x44b52d02c7e14af7L, "1.0000000000000001e+23");
        printsBits(0x444b1ae4d6e2ef4eL, "999999999999999700000");
        printsBits(0x444b1ae4d6e2ef4fL, "999999999999999900000");
        printsBits(0x444b1ae4d6e2ef50L, "1e+21");
        printsBits(0x3eb0c6f7a0b5ed8cL, "9.999999999999997e-7");
        printsBits(0x3eb0c6f7a0b5ed8dL, "0.000001");
        printsBits(0x41b3de4355555553L, "333333333.3333332");
        printsBits(0x41b3de4355555554L, "333333333.33333325");
        printsBits(0x41b3de4355555555L, "333333333.3333333");
        printsBits(0x41b3de4355555556L, "333333333.3333334");
        printsBits(0x41b3de4355555557L, "333333333.33333343");
        printsBits(0xbecbf647612f3696L, "-0.0000033333333333333333");
        printsBits(0x43143ff3c1cb0959L, "1424953923781206.2");
    }

    private static void printsBits(long bits, String due) {
        prints(Double.longBitsToDouble(bits), due);
    }

    /** Powers of two have a neighbour below that is nearer than the one above. */
    private static void printsAtLimits() {
        for (int power = -1074; power <= 1023; power++) {
            double number = Math.scalb(1.0, power);
            checkShortest(number);
            checkShortest(Math.nextUp(number));
            checkShortest(Math.nextDown(number));
        }
        for (int power = -323; power <= 308; power++) {
            checkShortest(Double.parseDouble("1e" + power));
            checkShortest(Double.parseDouble("-9.5e" + Math.min(power, 307)));
        }
    }

    /** All that the document says of the digits, tried with all lengths up to theirs. */
    private static void checkShortest(double number) {
        if (number == 0) {
            return;
        }
        String got = printed(number);
        Bench.due("print is read as the number " + got, Double.parseDouble(got) == number);
        BigDecimal exact = new BigDecimal(Math.abs(number));
        String due = "none";
        for (int d = 1; d <= 17 && due.equals("none"); d++) {
            due = nearestWith(exact, d);
        }
        Bench.due("print of " + number, got, (number < 0 ? "-" : "") + due);
    }

    private static String nearestWith(BigDecimal exact, int d) {
        BigDecimal low = exact.round(new MathContext(d, RoundingMode.DOWN));
        BigDecimal high = exact.round(new MathContext(d, RoundingMode.UP));
        boolean lowReads = low.signum() > 0 && low.doubleValue() == exact.doubleValue();
        boolean highReads = high.doubleValue() == exact.doubleValue();
        if (!lowReads && !highReads) {
            return "none";
        }
        if (lowReads && highReads) {
            return laidOut(exact.round(new MathContext(d, RoundingMode.HALF_EVEN)));
        }
        return laidOut(lowReads ? low : high);
    }

    private static String laidOut(BigDecimal number) {
        BigDecimal bare = number.stripTrailingZeros();
        String digits = bare.unscaledValue().toString();
        int k = digits.length();
        int n = k - bare.scale();
        if (k <= n && n <= 21) {
            return digits + "0".repeat(n - k);
        }
        if (0 < n && n <= 21) {
            return digits.substring(0, n) + "." + digits.substring(n);
        }
        if (-6 < n && n <= 0) {
            return "0." + "0".repeat(-n) + digits;
        }
        String power = "e" + (n > 0 ? "+" : "-") + Math.abs(n - 1);
        return k == 1 ? digits + power : digits.charAt(0) + "." + digits.substring(1) + power;
    }

    private static void roundsKnown() {
        rounds(0.0, 1, "0e+0");
        rounds(-0.0, 1, "-0e+0");
        rounds(0.0, 4, "0.000e+0");
        rounds(-0.0, 3, "-0.00e+0");
        rounds(9.5, 1, "1e+1");
        rounds(8.5, 1, "8e+0");
        rounds(7.5, 1, "8e+0");
        rounds(-2.5, 1, "-2e+0");
        rounds(1, 3, "1.00e+0");
        rounds(0.1, 20, "1.0000000000000000555e-1");
        rounds(99.5, 2, "1.0e+2");
        rounds(98.5, 2, "9.8e+1");
        rounds(999999, 5, "1.0000e+6");
        rounds(1e22, 5, "1.0000e+22");
        rounds(1e-7, 1, "1e-7");
        rounds(5e-324, 1, "5e-324");
        rounds(5e-324, 3, "4.94e-324");
        rounds(Double.MAX_VALUE, 2, "1.8e+308");
        rounds(Double.MAX_VALUE, 1, "2e+308");
        rounds(1000, 1, "1e+3");
        rounds(1250, 2, "1.2e+3");
        rounds(1350, 2, "1.4e+3");
        rounds(251, 1, "3e+2");
        rounds(250, 1, "2e+2");
        rounds(4501, 1, "5e+3");
        rounds(0.1, 55, "1.000000000000000055511151231257827021181583404541015625e-1");
        rounds(1.5, 2, "1.5e+0");
        rounds(-1.25, 3, "-1.25e+0");
        rounds(7, 1, "7e+0");
        rounds(0.0, 1, "0e+0");
        rounds(0.5, 800, "5." + "0".repeat(799) + "e-1");
        for (int d : new int[] {1, 2, 16, 17, 50, 308, 309, 310, 750, 766, 767, 768, 799, 800}) {
            checkRounded(Double.MIN_VALUE, d);
            checkRounded(Double.MAX_VALUE, d);
            checkRounded(-Double.MIN_NORMAL, d);
            checkRounded(Math.nextDown(Double.MIN_NORMAL), d);
            checkRounded(Math.nextDown(2 * Double.MIN_NORMAL), d);
            checkRounded(0.1, d);
            checkRounded(-1.0 / 3, d);
            checkRounded(9.5, d);
        }
    }

    private static void checkRounded(double number, int d) {
        BigDecimal exact = new BigDecimal(number).round(new MathContext(d, RoundingMode.HALF_EVEN));
        String digits = exact.unscaledValue().abs().toString();
        int power = digits.length() - 1 - exact.scale();
        digits = (digits + "0".repeat(d)).substring(0, d);
        String due = (number < 0 ? "-" : "") + digits.charAt(0) + (d > 1 ? "." : "") + digits.substring(1)
                + "e" + (power < 0 ? "-" : "+") + Math.abs(power);
        rounds(number, d, due);
    }

    private static void refusesEndless() {
        bench.press.print(Double.doubleToRawLongBits(12));
        long[] bad = {0x7FF0000000000000L, 0xFFF0000000000000L, NO_NUMBER, 0x7FF0000000000001L,
            0xFFFFFFFFFFFFFFFFL, 0x7FFFFFFFFFFFFFFFL};
        for (long bits : bad) {
            Bench.due("print of " + bits, bench.press.print(bits), CanonPress.NONE);
            Bench.due("round of " + bits, bench.press.round(bits, 5), CanonPress.NONE);
        }
        for (int d : new int[] {0, -1, 801, Integer.MAX_VALUE, Integer.MIN_VALUE}) {
            Bench.due("round to " + d, bench.press.round(0, d), CanonPress.NONE);
        }
        Bench.due("OUT stays", bench.outText(), "12");
    }

    private static void atRandom() {
        Random random = new Random(7);
        for (int i = 0; i < 6000; i++) {
            double number = Double.longBitsToDouble(random.nextLong());
            if (i % 3 == 0) {
                number = random.nextInt(100000) / Math.pow(10, random.nextInt(12));
            }
            if (i % 17 == 0) {
                number = Double.longBitsToDouble(random.nextLong() >>> 12 + random.nextInt(50));
            }
            if (Double.isNaN(number) || Double.isInfinite(number)) {
                continue;
            }
            checkShortest(number);
            if (i % 10 == 0 && number != 0) {
                checkRounded(number, 1 + random.nextInt(800));
                checkRounded(number, 1 + random.nextInt(20));
            }
            checkReading(random);
        }
    }

    private static void checkReading(Random random) {
        StringBuilder numeral = new StringBuilder();
        if (random.nextBoolean()) {
            numeral.append('-');
        }
        numeral.append(random.nextInt(4) == 0 ? 0 : 1 + random.nextInt(1 << 1 + random.nextInt(29)));
        if (random.nextBoolean()) {
            numeral.append('.');
            int digits = 1 + random.nextInt(random.nextInt(20) == 0 ? 900 : 25);
            for (int i = 0; i < digits; i++) {
                numeral.append((char) ('0' + random.nextInt(10)));
            }
        }
        if (random.nextBoolean()) {
            numeral.append(random.nextBoolean() ? "e" : "E");
            numeral.append(new String[] {"", "+", "-"}[random.nextInt(3)]);
            numeral.append(random.nextInt(random.nextBoolean() ? 30 : 345));
        }
        reads(numeral.toString(), Double.parseDouble(numeral.toString()));
    }
}
