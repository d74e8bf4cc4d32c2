import java.math.BigDecimal;
import java.math.BigInteger;
import java.math.MathContext;
import java.math.RoundingMode;

/** The Terms on numbers, and promises 5 to 7: each boundary that they name, from both of its sides. */
final class NumberEdges {
    private static final long NO_NUMBER = 9221120237041090560L;
    private static final long ENDLESS = 0x7FF0000000000000L;
    private static final long LARGEST = 0x7FEFFFFFFFFFFFFFL;
    private static final long SIGN = Long.MIN_VALUE;
    private static final BigInteger EDGE = BigInteger.TWO.pow(1024).subtract(BigInteger.TWO.pow(970));

    private NumberEdges() {
    }

    static void all() {
        numeralsAreWholeOnes();
        readsTheNearest();
        readsTheEvenOfTwo();
        readsEndlessFromItsEdgeOn();
        readsMinusNothing();
        printsNothing();
        printsMinus();
        printsTheFewest();
        printsTheNearestOfSeveral();
        printsTheEvenOfTwo();
        printsWholeNumbers();
        printsAPointWithin();
        printsBehindAPoint();
        printsPowers();
        roundsToSoManyDigits();
        roundsWithAFirstDigit();
        roundsWithAPoint();
        roundsWithItsPower();
        roundsToTheNearest();
        roundsToTheEvenOfTwo();
        roundsWithMinus();
        emptiesTheTape();
        tellsThatItIsNone();
        printTellsItsLength();
        printRefuses();
        roundTellsItsLength();
        roundRefuses();
    }

    private static long read(String numeral) {
        return Edges.laid(numeral).press.numeral();
    }

    private static void reads(String numeral, long due) {
        Bench.due("numeral() of " + numeral, read(numeral), due);
    }

    private static void reads(String numeral, double due) {
        reads(numeral, bits(due));
    }

    private static long bits(double number) {
        return Double.doubleToRawLongBits(number);
    }

    private static void prints(long bits, String due) {
        Bench bench = new Bench();
        Bench.due("print(" + bits + ")", bench.press.print(bits), due.length());
        Bench.due("OUT of print(" + bits + ")", bench.outText(), due);
    }

    private static void prints(double number, String due) {
        prints(bits(number), due);
    }

    private static void rounds(double number, int d, String due) {
        Bench bench = new Bench();
        Bench.due("round(" + number + ", " + d + ")", bench.press.round(bits(number), d), due.length());
        Bench.due("OUT of round(" + number + ", " + d + ")", bench.outText(), due);
    }

    private static void numeralsAreWholeOnes() {
        Edges.says("A NUMERAL (RFC 8259): [-] and 0 or digits that do not begin with 0, [. and digits],"
                + " [e or E, perhaps + or -, digits].");
        for (String good : new String[] {"0", "-0", "9", "-9", "10", "0.0", "-0.0", "1.0", "0.9", "1e0", "1E0", "1e+0",
            "1e-0", "1E+0", "1E-0", "0e0", "1.5e5", "1e05", "1e+00", "10.01E-01"}) {
            reads(good, Double.parseDouble(good));
        }
        for (String bad : new String[] {"", "-", "+", "--0", "+0", "00", "01", "-00", "-01", "0.", "-0.", ".0", "-.0",
            "1.", "1.e0", "1.E0", ".", "e0", "-e0", "0e", "1e", "1E", "1e+", "1e-", "1e+-0", "1e--0", "1e++0", "1e0.0",
            "1e.0", "0.0.0", "0..0", "1ee0", "1e0e0", " 0", "0 ", "\t0", "0\n", "0\r", "0-", "-0-", "0+0", "0x0", "0,0",
            "/", ":", "1/", "1:", "0/", "0:", "0./", "0.:", "1e/", "1e:", "1e0/", "1e0:", "0f", "0d", "0L", "\u0660",
            "NaN", "Infinity", "null", "\"0\"", "0\u0000", "\u00000"}) {
            reads(bad, NO_NUMBER);
        }
        reads("9".repeat(2000), ENDLESS);
        reads("-0." + "0".repeat(1997), SIGN);
        reads("9".repeat(1999) + ".", NO_NUMBER);
        reads("0".repeat(2000), NO_NUMBER);
        reads("1." + "0".repeat(1997) + "e", NO_NUMBER);
        reads("1e" + "0".repeat(1998), bits(1));
    }

    /** Exactly so many times 2^-1075: halfway between two of the least numbers if it is odd. */
    private static String halves(long howMany) {
        return BigDecimal.valueOf(howMany).divide(new BigDecimal(BigInteger.TWO.pow(1075))).toString().replace("E", "e");
    }

    /** With this digit behind the last one, so that it is a little more. */
    private static String more(String numeral, String behind) {
        int e = numeral.indexOf('e');
        return numeral.substring(0, e) + behind + numeral.substring(e);
    }

    private static void readsTheNearest() {
        Edges.says("It is READ as the number nearest to what it says exactly,");
        reads("0.1", 0x3FB999999999999AL);
        reads("0.3", 0x3FD3333333333333L);
        reads("9007199254740992.99999999999999999999", 0x4340000000000000L);
        reads("9007199254740993.00000000000000000001", 0x4340000000000001L);
        reads("9007199254740992." + "9".repeat(1983), 0x4340000000000000L);
        reads("9007199254740993." + "0".repeat(1982) + "1", 0x4340000000000001L);
        reads("9007199254740993" + "0".repeat(1975) + "1e-1976", 0x4340000000000001L);
        reads(more(halves(1), "1"), 1);
        reads(more(halves(1), "0".repeat(1200) + "1"), 1);
        String half = halves(1);
        reads(half.replace("5e", "4" + "9".repeat(1200) + "e"), 0);
        // Half of the least, and by ever less beside it.
        for (int finer = 1; finer < 40; finer++) {
            BigDecimal part = BigDecimal.ONE.divide(new BigDecimal(BigInteger.TWO.pow(1075 + finer)));
            BigDecimal least = new BigDecimal(halves(1));
            reads(least.add(part).toString().replace("E", "e"), 1);
            reads(least.subtract(part).toString().replace("E", "e"), 0);
        }
        reads(more(halves(3), "1"), 2);
        reads(halves(3).replace("5e", "49e"), 1);
        for (int digits = 1; digits <= 60; digits++) {
            String whole = "98765432109876543210".repeat(3).substring(0, digits);
            reads(whole, new BigInteger(whole).doubleValue());
            reads("0.000" + whole, new BigDecimal("0.000" + whole).doubleValue());
        }
        reads("2.2250738585072011e-308", 0x000FFFFFFFFFFFFFL);
        reads("2.2250738585072014e-308", 0x0010000000000000L);
        reads("1.7976931348623157e308", LARGEST);
        // A unit of the last bit, half of it, and one more or less, wherever that half lies.
        for (int top = 54; top < 1024; top += 3) {
            BigInteger number = BigInteger.TWO.pow(top).add(BigInteger.TWO.pow(top - 53));
            long lesser = (long) (top + 1023) << 52;
            reads(number.add(BigInteger.ONE).toString(), lesser + 1);
            reads(number.subtract(BigInteger.ONE).toString(), lesser);
        }
        reads("1" + "0".repeat(1990) + "e-1990", 1.0);
        reads("0." + "0".repeat(1990) + "1e1991", 1.0);
        reads("0." + "0".repeat(1990) + "4e1667", Double.MIN_VALUE);
        reads("9007199254740993" + "0".repeat(783) + "1e-784", 0x4340000000000001L);
        reads("9007199254740993" + "0".repeat(784) + "1e-785", 0x4340000000000001L);
        reads("9007199254740993" + "0".repeat(785) + "1e-786", 0x4340000000000001L);
    }

    private static void readsTheEvenOfTwo() {
        Edges.says("of two that are equally near the one whose last bit is 0;");
        reads("9007199254740993", 0x4340000000000000L);
        reads("9007199254740995", 0x4340000000000002L);
        reads("-9007199254740993", 0xC340000000000000L);
        reads("-9007199254740995", 0xC340000000000002L);
        reads("9007199254740993" + "." + "0".repeat(1983), 0x4340000000000000L);
        reads("9007199254740993" + "0".repeat(1900) + "e-1900", 0x4340000000000000L);
        reads("9007199254740995" + "0".repeat(1900) + "e-1900", 0x4340000000000002L);
        for (int top = 53; top < 1024; top += 3) {
            BigInteger half = BigInteger.TWO.pow(top - 53);
            long lesser = (long) (top + 1023) << 52;
            reads(BigInteger.TWO.pow(top).add(half).toString(), lesser);
            reads(BigInteger.TWO.pow(top).add(half.multiply(BigInteger.valueOf(3))).toString(), lesser + 2);
        }
        reads("1e23", 0x44B52D02C7E14AF6L);
        reads(halves(1), 0);
        reads(halves(3), 2);
        reads(halves(5), 2);
        reads(halves(7), 4);
        reads("-" + halves(1), SIGN);
        reads("-" + halves(3), SIGN | 2);
        // The largest without its leading bit, and what is a half above it: the carry goes into the exponent.
        reads(halves(0x1FFFFFFFFFFFFFL), 0x0010000000000000L);
        reads(halves(0x1FFFFFFFFFFFFDL), 0x000FFFFFFFFFFFFEL);
        reads(new BigDecimal("2").subtract(new BigDecimal(Math.scalb(1.0, -53))).toPlainString(), 2.0);
        reads(new BigDecimal("1").add(new BigDecimal(Math.scalb(1.0, -53))).toPlainString(), 1.0);
        // What a longer one had beyond its digits is not of the next one.
        Bench bench = Edges.laid("9007199254740993" + "0".repeat(900) + "1e-901");
        Bench.due("a little more", bench.press.numeral(), 0x4340000000000001L);
        bench.lay("9007199254740993");
        Bench.due("equally near", bench.press.numeral(), 0x4340000000000000L);
    }

    private static void readsEndlessFromItsEdgeOn() {
        Edges.says("from 2^1024 - 2^970 on as what is endless (greater or, with -, less than all);");
        String edge = EDGE.toString();
        String under = EDGE.subtract(BigInteger.ONE).toString();
        reads(edge, ENDLESS);
        reads("-" + edge, SIGN | ENDLESS);
        reads(under, LARGEST);
        reads("-" + under, SIGN | LARGEST);
        reads(edge + "." + "0".repeat(1600), ENDLESS);
        reads(edge + "0".repeat(1600) + "e-1600", ENDLESS);
        reads(under + "." + "9".repeat(1600), LARGEST);
        reads("-" + under + "." + "9".repeat(1600), SIGN | LARGEST);
        reads(under + "9".repeat(1600) + "e-1600", LARGEST);
        reads("0." + edge + "e309", ENDLESS);
        reads("0." + under + "e309", LARGEST);
        reads("0." + "0".repeat(1500) + edge + "e1809", ENDLESS);
        reads("0." + "0".repeat(1500) + under + "e1809", LARGEST);
        reads("1e308", 1e308);
        for (String beyond : new String[] {"1.8e308", "2e308", "3.5e308", "3.6e308", "7e308", "9.99e308", "9.99e309", "1e310"}) {
            reads(beyond, ENDLESS);
            reads("-" + beyond, SIGN | ENDLESS);
        }
        for (String power : new String[] {"309", "310", "311", "999", "1024", "65536", "2147483647", "2147483648", "2147483649",
            "4294967295", "4294967296", "4294967297", "9223372036854775807", "9223372036854775808",
            "18446744073709551616", "18446744073709551617", "9".repeat(1990)}) {
            reads("1e" + power, ENDLESS);
            reads("-1e+" + power, SIGN | ENDLESS);
            reads("0e" + power, 0);
        }
        reads("1e" + "0".repeat(1990) + "5", 1e5);
        reads("1" + "0".repeat(1900), ENDLESS);
        reads("0.1e309", 1e308);
        reads("0.1e310", ENDLESS);
    }

    private static void readsMinusNothing() {
        Edges.says("with - what comes to 0 is -0.");
        for (String nothing : new String[] {"0", "0.0", "0e0", "0e5", "0E-5", "0.000e+7", "0e99999999999", "1e-324", "1e-400",
            "2e-324", "0." + "0".repeat(1990) + "1", "9e-99999999999", "1e-2147483648", "1e-2147483649", "1e-4294967296",
            "1e-18446744073709551616", "1e-" + "9".repeat(1990), halves(1)}) {
            reads("-" + nothing, SIGN);
            reads(nothing, 0);
        }
        reads("-" + more(halves(1), "1"), SIGN | 1);
        reads("-3e-324", SIGN | 1);
    }

    private static void printsNothing() {
        Edges.says("A number is PRINTED (ECMA-262, Number::toString; RFC 8785, 3.2.2.3): 0 and -0 as 0;");
        prints(0L, "0");
        prints(SIGN, "0");
        prints(1L, "5e-324");
    }

    private static void printsMinus() {
        Edges.says("else, with - ahead of what is below 0:");
        prints(SIGN | 1, "-5e-324");
        prints(-1.0, "-1");
        prints(-0.5, "-0.5");
        prints(-1e21, "-1e+21");
        prints(-1.5e-9, "-1.5e-9");
        prints(SIGN | LARGEST, "-1.7976931348623157e+308");
        prints(1.0, "1");
    }

    /** The half ways to the neighbours belong to a number only if its last bit is 0. */
    private static void printsTheFewest() {
        Edges.says("let its DIGITS be the fewest (the first not 0) that with some power of ten say something that is"
                + " READ as this number;");
        prints(0x44B52D02C7E14AF6L, "1e+23");
        prints(0x44B52D02C7E14AF7L, "1.0000000000000001e+23");
        prints(0x44B52D02C7E14AF5L, "9.999999999999997e+22");
        prints(LARGEST, "1.7976931348623157e+308");
        prints(0x0010000000000000L, "2.2250738585072014e-308");
        prints(0x000FFFFFFFFFFFFFL, "2.225073858507201e-308");
        prints(2L, "1e-323");
        prints(3L, "1.5e-323");
        prints(0.1, "0.1");
        prints(Math.nextUp(0.1), "0.10000000000000002");
        prints(Math.nextDown(0.1), "0.09999999999999999");
        prints(0.1 + 0.2, "0.30000000000000004");
        prints(100.0, "100");
        prints(120.0, "120");
        // Numerals that lie just at the lower and at the upper end of what is READ as these.
        prints(0x447017F7DF96BE18L, "4.75e+21");
        prints(0x447017F7DF96BE17L, "4.749999999999999e+21");
        prints(0x4470069EFB362CDAL, "4.73e+21");
        prints(0x4470069EFB362CDBL, "4.730000000000001e+21");
        for (int power = -1074; power < 1024; power++) {
            double number = Math.scalb(1.0, power);
            prints(number, Model.printed(number));
        }
        // The neighbour below a power of two is nearer than that above.
        prints(Math.scalb(1.0, -44), "5.684341886080802e-14");
        prints(Math.scalb(1.0, -1021), "4.450147717014403e-308");
        prints(9007199254740992.0, "9007199254740992");
        prints(0x4350000000000000L, "18014398509481984");
    }

    private static void printsTheNearestOfSeveral() {
        Edges.says("of several with as many those that are nearest to it;");
        // One digit tells the least number: 3, 4, 5, 6 and 7; it is 4.94.. of them.
        prints(1L, "5e-324");
        prints(4L, "2e-323");
        prints(5L, "2.5e-323");
        prints(7L, "3.5e-323");
        prints(11L, "5.4e-323");
        prints(0x4430000000000000L, "295147905179352830000");
        prints(9007199254740994.0 * 2, "18014398509481988");
        prints(2e23, "2e+23");
        prints(0x7FE0000000000000L, "8.98846567431158e+307");
    }

    private static void printsTheEvenOfTwo() {
        Edges.says("of two such the one whose last digit is even;");
        prints(562949953421312.25, "562949953421312.2");
        prints(562949953421312.75, "562949953421312.8");
        prints(562949953421313.25, "562949953421313.2");
        prints(-562949953421312.75, "-562949953421312.8");
        prints(0x43143FF3C1CB0959L, "1424953923781206.2");
    }

    private static void printsWholeNumbers() {
        Edges.says("If n is from k to 21: the DIGITS, n - k 0s behind.");
        prints(7.0, "7");
        prints(70.0, "70");
        prints(123.0, "123");
        prints(9007199254740993.0 * 10, "90071992547409920");
        prints(1e20, "100000000000000000000");
        prints(123456789012345680000.0, "123456789012345680000");
        prints(Math.nextDown(1e21), "999999999999999900000");
        prints(1e21, "1e+21");
        prints(Math.nextUp(1e21), "1.0000000000000001e+21");
    }

    private static void printsAPointWithin() {
        Edges.says("Else if n is from 1 to 21: a . behind the first n of them.");
        prints(1.5, "1.5");
        prints(9.9, "9.9");
        prints(12.5, "12.5");
        prints(123456789.125, "123456789.125");
        prints(4503599627370495.5, "4503599627370495.5");
        prints(1.2345678901234567, "1.2345678901234567");
        prints(Math.nextUp(1.0), "1.0000000000000002");
    }

    private static void printsBehindAPoint() {
        Edges.says("Else if n is from -5 to 0: 0. , - n 0s, the DIGITS.");
        prints(0.5, "0.5");
        prints(Math.nextDown(1.0), "0.9999999999999999");
        prints(0.05, "0.05");
        prints(0.000001, "0.000001");
        prints(0.0000015, "0.0000015");
        prints(Math.nextUp(0.000001), "0.0000010000000000000002");
        prints(Math.nextDown(0.000001), "9.999999999999997e-7");
        prints(9.5e-7, "9.5e-7");
    }

    private static void printsPowers() {
        Edges.says("Else: the first DIGIT, if there are more . and the others, e, + or -, the size of n - 1.");
        prints(1e21, "1e+21");
        prints(1.5e21, "1.5e+21");
        prints(1e22, "1e+22");
        prints(1e99, "1e+99");
        prints(1e100, "1e+100");
        prints(1.25e101, "1.25e+101");
        prints(1e-7, "1e-7");
        prints(1.5e-7, "1.5e-7");
        prints(1e-9, "1e-9");
        prints(1e-10, "1e-10");
        prints(1e-99, "1e-99");
        prints(1e-100, "1e-100");
        prints(1e308, "1e+308");
        for (int power : new int[] {197, 198, 199, 200, 201, 297, 298, 299, 300, 301}) {
            prints(Double.parseDouble("1e" + power), "1e+" + power);
            prints(Double.parseDouble("1e-" + power), "1e-" + power);
        }
    }

    private static void roundsToSoManyDigits() {
        Edges.says("ROUNDED to d digits (1 .. 800):");
        rounds(0.5, 1, "5e-1");
        rounds(0.5, 2, "5.0e-1");
        rounds(0.5, 799, "5." + "0".repeat(798) + "e-1");
        rounds(0.5, 800, "5." + "0".repeat(799) + "e-1");
        BigDecimal least = new BigDecimal(Double.MIN_VALUE);
        String digits = least.unscaledValue().toString();
        Bench.due("the least number has 751 digits", digits.length(), 751);
        rounds(Double.MIN_VALUE, 751, "4." + digits.substring(1) + "e-324");
        rounds(Double.MIN_VALUE, 752, "4." + digits.substring(1) + "0e-324");
        rounds(Double.MIN_VALUE, 800, "4." + digits.substring(1) + "0".repeat(49) + "e-324");
        String longest = new BigDecimal(Math.nextDown(2 * Double.MIN_NORMAL)).unscaledValue().toString();
        Bench.due("no number has more than 767 digits", longest.length(), 767);
        rounds(Math.nextDown(2 * Double.MIN_NORMAL), 800, "4." + longest.substring(1) + "0".repeat(33) + "e-308");
        rounds(Math.nextDown(2 * Double.MIN_NORMAL), 767, "4." + longest.substring(1) + "e-308");
        String large = new BigDecimal(Double.MAX_VALUE).toBigInteger().toString();
        rounds(Double.MAX_VALUE, 800, "1." + large.substring(1) + "0".repeat(491) + "e+308");
        rounds(Double.MAX_VALUE, 309, "1." + large.substring(1) + "e+308");
    }

    private static void roundsWithAFirstDigit() {
        Edges.says("the first digit (not 0, but of 0 itself),");
        rounds(0.0, 1, "0e+0");
        rounds(0.0, 2, "0.0e+0");
        rounds(0.0, 800, "0." + "0".repeat(799) + "e+0");
        rounds(-0.0, 800, "-0." + "0".repeat(799) + "e+0");
        rounds(0.001, 1, "1e-3");
        rounds(0.001, 3, "1.00e-3");
        rounds(Double.MIN_VALUE, 1, "5e-324");
        rounds(0.05, 2, "5.0e-2");
    }

    private static void roundsWithAPoint() {
        Edges.says("if d is above 1 . and d - 1 more,");
        rounds(3.0, 1, "3e+0");
        rounds(3.0, 2, "3.0e+0");
        rounds(3.0, 3, "3.00e+0");
        rounds(3.14, 2, "3.1e+0");
    }

    private static void roundsWithItsPower() {
        Edges.says("e, + or -, its power of ten's size:");
        rounds(1.0, 1, "1e+0");
        rounds(9.0, 1, "9e+0");
        rounds(10.0, 1, "1e+1");
        rounds(0.9, 1, "9e-1");
        rounds(0.99, 1, "1e+0");
        rounds(0.096, 1, "1e-1");
        rounds(9.96, 2, "1.0e+1");
        rounds(1e99, 1, "1e+99");
        rounds(1e100, 1, "1e+100");
        rounds(1e-9, 1, "1e-9");
        rounds(1e-10, 1, "1e-10");
        rounds(1e-100, 1, "1e-100");
        rounds(Double.MAX_VALUE, 1, "2e+308");
    }

    private static void roundsToTheNearest() {
        Edges.says("nearest to the number,");
        rounds(2.4, 1, "2e+0");
        rounds(2.6, 1, "3e+0");
        rounds(Math.nextUp(2.5), 1, "3e+0");
        rounds(Math.nextDown(2.5), 1, "2e+0");
        rounds(Math.nextDown(3.5), 1, "3e+0");
        rounds(Math.nextUp(9.5), 1, "1e+1");
        rounds(Math.nextDown(9.5), 1, "9e+0");
        rounds(0.15, 1, "1e-1");
        rounds(1.005, 3, "1.00e+0");
        rounds(0.1, 18, "1.00000000000000006e-1");
        rounds(24999.0, 1, "2e+4");
        rounds(25001.0, 1, "3e+4");
        rounds(25010.0, 1, "3e+4");
        rounds(25100.0, 1, "3e+4");
        rounds(25100.0, 2, "2.5e+4");
        rounds(999999.0, 6, "9.99999e+5");
        rounds(999999.0, 5, "1.0000e+6");
    }

    private static void roundsToTheEvenOfTwo() {
        Edges.says("of two equally near the one that is even when the last place of the lesser one counts 1"
                + " (so 10, not 9, for 9.5);");
        rounds(9.5, 1, "1e+1");
        rounds(8.5, 1, "8e+0");
        rounds(1.5, 1, "2e+0");
        rounds(2.5, 1, "2e+0");
        rounds(0.25, 1, "2e-1");
        rounds(0.75, 1, "8e-1");
        rounds(99.5, 2, "1.0e+2");
        rounds(98.5, 2, "9.8e+1");
        rounds(995.0, 2, "1.0e+3");
        rounds(25000.0, 1, "2e+4");
        rounds(35000.0, 1, "4e+4");
        rounds(9950000.0, 2, "1.0e+7");
        rounds(2.5e22, 1, "2e+22");
        rounds(-9.5, 1, "-1e+1");
        rounds(-8.5, 1, "-8e+0");
        rounds(1.25, 2, "1.2e+0");
        rounds(1.75, 2, "1.8e+0");
        for (double number : new double[] {Double.MIN_VALUE, 3 * Double.MIN_VALUE, Math.nextDown(2 * Double.MIN_NORMAL)}) {
            BigDecimal exact = new BigDecimal(number);
            int d = exact.precision() - 1;
            String digits = exact.round(new MathContext(d, RoundingMode.HALF_EVEN)).unscaledValue().toString();
            int power = exact.precision() - exact.scale() - 1;
            rounds(number, d, digits.charAt(0) + "." + digits.substring(1) + "e" + power);
        }
    }

    private static void roundsWithMinus() {
        Edges.says("- ahead of what is below 0, and of -0.");
        rounds(-0.0, 1, "-0e+0");
        rounds(-0.0, 3, "-0.00e+0");
        rounds(0.0, 1, "0e+0");
        rounds(-1.0, 1, "-1e+0");
        rounds(-Double.MIN_VALUE, 1, "-5e-324");
        rounds(Double.MIN_VALUE, 1, "5e-324");
    }

    private static void emptiesTheTape() {
        Edges.says(5, "The TAPE, empty then, is a NUMERAL: the BITS that it is READ as.");
        for (String tape : new String[] {"", "1", "x", "9".repeat(2000)}) {
            Bench bench = Edges.laid(tape);
            bench.press.numeral();
            Bench.due("about(0) behind numeral() of " + tape, bench.press.about(0), 0);
            Bench.due("numeral() again", bench.press.numeral(), NO_NUMBER);
        }
        // Nothing is left of a longer tape.
        Bench bench = Edges.laid("123456");
        bench.press.numeral();
        bench.lay("12");
        Bench.due("numeral()", bench.press.numeral(), bits(12));
        // Endless ones are NUMERALS, too.
        reads("1e999", ENDLESS);
        reads("-1e999", SIGN | ENDLESS);
    }

    private static void tellsThatItIsNone() {
        Edges.says(5, "9221120237041090560 if it is none.");
        reads("", NO_NUMBER);
        reads("x", NO_NUMBER);
        reads("1x", NO_NUMBER);
        reads("x".repeat(2000), NO_NUMBER);
        Edges.refusesAndEmpties("numeral()", "1.", CanonPress::numeral, NO_NUMBER);
        Edges.refusesAndEmpties("numeral()", "", CanonPress::numeral, NO_NUMBER);
    }

    private static void printTellsItsLength() {
        Edges.says(6, "OUT is this number PRINTED: how many bytes;");
        prints(0.0, "0");
        prints(-2.2250738585072014e-308, "-2.2250738585072014e-308");
        // Nothing is left of a longer OUT.
        Bench bench = new Bench();
        bench.press.print(bits(-1.25));
        Bench.due("print", bench.press.print(bits(7)), 1);
        Bench.due("OUT", bench.outText(), "7");
    }

    private static void printRefuses() {
        Edges.says(6, "NONE, and OUT stays, if it is endless or no number.");
        for (long bits : new long[] {ENDLESS, SIGN | ENDLESS, ENDLESS + 1, NO_NUMBER, NO_NUMBER - 1, Long.MAX_VALUE, -1L,
            SIGN | NO_NUMBER}) {
            Edges.refuses("print(" + bits + ")", press -> press.print(bits), Edges.NONE);
        }
        prints(LARGEST, "1.7976931348623157e+308");
        prints(SIGN | LARGEST, "-1.7976931348623157e+308");
    }

    private static void roundTellsItsLength() {
        Edges.says(7, "OUT is this number ROUNDED to d digits: how many bytes;");
        rounds(1.0, 1, "1e+0");
        rounds(-1e-100, 800, "-1." + new BigDecimal(1e-100).round(new MathContext(800)).unscaledValue().toString()
                .concat("0".repeat(800)).substring(1, 800) + "e-100");
        Bench bench = new Bench();
        bench.press.round(bits(1.5), 800);
        Bench.due("round", bench.press.round(bits(1.5), 2), 6);
        Bench.due("OUT", bench.outText(), "1.5e+0");
    }

    private static void roundRefuses() {
        Edges.says(7, "NONE, and OUT stays, if it is endless or no number, or d is not 1 .. 800.");
        for (long bits : new long[] {ENDLESS, SIGN | ENDLESS, ENDLESS + 1, NO_NUMBER, Long.MAX_VALUE, -1L}) {
            Edges.refuses("round(" + bits + ", 1)", press -> press.round(bits, 1), Edges.NONE);
        }
        for (int d : new int[] {0, -1, 801, 802, Edges.MOST, Edges.LEAST, 65537, -65535}) {
            Edges.refuses("round(1.5, " + d + ")", press -> press.round(bits(1.5), d), Edges.NONE);
            Edges.refuses("round(0, " + d + ")", press -> press.round(0, d), Edges.NONE);
        }
        rounds(1.5, 1, "2e+0");
        rounds(1.5, 800, "1.5" + "0".repeat(798) + "e+0");
    }
}
