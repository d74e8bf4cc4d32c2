/** Promises 1 to 4, 8 and 20: a new press, the TAPE and OUT. */
public final class TapeTest {
    private static final int NONE = CanonPress.NONE;

    public static void main(String[] args) {
        newPress();
        feeds();
        ends();
        takes();
        tellsOut();
        tellsAbout();
        Bench.close("TapeTest");
    }

    private static void newPress() {
        CanonPress press = new CanonPress();
        Bench.due("NONE", CanonPress.NONE, -1);
        Bench.due("about(0)", press.about(0), 0);
        Bench.due("about(1)", press.about(1), 0);
        Bench.due("about(2)", press.about(2), 0);
        Bench.due("out(0)", press.out(0), NONE);
        Bench.due("place()", press.place(), NONE);
        Bench.due("take()", press.take(), 0);
        Bench.due("end(0)", press.end(0), 0);
        Bench.due("end(1)", press.end(1), NONE);
        for (int shelf = -1; shelf <= 8; shelf++) {
            Bench.due("form", press.form(shelf, 0), NONE);
            Bench.due("value", press.value(shelf, 0, 0), NONE);
            Bench.due("bits", press.bits(shelf, 0), 0);
            Bench.due("character", press.character(shelf, 0, 1, 0), NONE);
            Bench.due("point", press.point(shelf), -2);
            Bench.due("same", press.same(shelf, 0, shelf, 0), NONE);
            Bench.due("merge", press.merge(shelf, shelf, shelf), NONE);
            Bench.due("patch", press.patch(shelf, shelf, shelf), NONE);
            Bench.due("part", press.part(shelf, 0, shelf), NONE);
        }
        Bench.due("numeral() of nothing", press.numeral(), 9221120237041090560L);
        Bench.due("document() of nothing", press.document(0), 1);
        Bench.due("place() of the end", press.place(), 0);
    }

    private static void feeds() {
        Bench bench = new Bench();
        CanonPress press = bench.press;
        Bench.due("feed", press.feed(0x22414243, 0x44454647, 0x48494A4B, 0x4C4D4E4F, 0x50515222), 20);
        Bench.due("document", press.document(0), 0);
        Bench.due("highest byte first", bench.formOf(0), "\"ABCDEFGHIJKLMNOPQR\"");
        Bench.due("feed", press.feed(0x22C3A922, -1, Integer.MIN_VALUE, 0, 7), 20);
        press.end(4);
        Bench.due("document", press.document(0), 0);
        Bench.due("bytes above 127", press.character(0, 0, 1, 0), 233);
        for (int i = 1; i <= 100; i++) {
            Bench.due("feed", press.feed(0x20202020, 0x20202020, 0x20202020, 0x20202020, 0x20202031), 20 * i);
        }
        Bench.due("feed onto a full tape", press.feed(1, 2, 3, 4, 5), NONE);
        Bench.due("about(0)", press.about(0), 2000);
        Bench.due("end", press.end(1981), 1981);
        Bench.due("feed where 19 are free", press.feed(1, 2, 3, 4, 5), NONE);
        Bench.due("nothing came", press.about(0), 1981);
        Bench.due("end", press.end(1980), 1980);
        Bench.due("feed where 20 are free", press.feed(0, 0, 0, 0, 0), 2000);
    }

    private static void ends() {
        Bench bench = new Bench();
        CanonPress press = bench.press;
        bench.lay("12345");
        Bench.due("end", press.end(6), NONE);
        Bench.due("end", press.end(-1), NONE);
        Bench.due("end", press.end(Integer.MAX_VALUE), NONE);
        Bench.due("end", press.end(Integer.MIN_VALUE), NONE);
        Bench.due("end did nothing", press.about(0), 5);
        Bench.due("end", press.end(5), 5);
        Bench.due("end", press.end(2), 2);
        Bench.due("about", press.about(0), 2);
        Bench.due("the first stay", press.numeral(), Double.doubleToLongBits(12));
        Bench.due("end", press.end(0), 0);
    }

    private static void takes() {
        Bench bench = new Bench();
        CanonPress press = bench.press;
        bench.lay("rubbish");
        press.print(Double.doubleToLongBits(-12.5));
        Bench.due("take", press.take(), 5);
        Bench.due("about", press.about(0), 5);
        Bench.due("OUT stays", bench.outText(), "-12.5");
        Bench.due("the tape is it", press.numeral(), Double.doubleToLongBits(-12.5));
        Bench.due("take again", press.take(), 5);
        Bench.due("the tape is it", press.numeral(), Double.doubleToLongBits(-12.5));
        String long1998 = "\"" + "\\u0001".repeat(333) + "\"";
        bench.put(0, long1998);
        Bench.due("form", press.form(0, 0), 2000);
        Bench.due("take of 2000", press.take(), 2000);
        Bench.due("document", press.document(1), 0);
        Bench.due("same", press.same(0, 0, 1, 0), 1);
        bench.lay("[" + "1e20,".repeat(95) + "1]");
        Bench.due("document", press.document(0), 0);
        Bench.due("form", press.form(0, 0), 2093);
        bench.lay("77");
        Bench.due("take of 2093", press.take(), NONE);
        Bench.due("the tape stays", press.numeral(), Double.doubleToLongBits(77));
        Bench.due("and OUT", press.about(1), 2093);
        bench.put(2, "[" + "1e20,".repeat(90) + "1e18]");
        Bench.due("form of 2001", press.form(2, 0), 2001);
        Bench.due("take of 2001", press.take(), NONE);
    }

    private static void tellsOut() {
        Bench bench = new Bench();
        CanonPress press = bench.press;
        bench.put(0, "\"\u00e9\"");
        press.form(0, 0);
        int[] due = {34, 0xC3, 0xA9, 34, NONE, NONE};
        for (int i = 0; i < due.length; i++) {
            Bench.due("out", press.out(i), due[i]);
        }
        Bench.due("out", press.out(-1), NONE);
        Bench.due("out", press.out(Integer.MAX_VALUE), NONE);
        Bench.due("out", press.out(Integer.MIN_VALUE), NONE);
        press.print(0);
        Bench.due("out", press.out(0), '0');
        Bench.due("nothing of what was there", press.out(1), NONE);
    }

    private static void tellsAbout() {
        Bench bench = new Bench();
        CanonPress press = bench.press;
        Bench.due("about", press.about(3), NONE);
        Bench.due("about", press.about(-1), NONE);
        Bench.due("about", press.about(Integer.MAX_VALUE), NONE);
        for (int shelf = 0; shelf < 8; shelf++) {
            bench.put(7 - shelf, "null");
            Bench.due("about(2)", press.about(2), shelf + 1);
        }
        bench.put(3, "1");
        Bench.due("about(2)", press.about(2), 8);
        bench.lay("123");
        Bench.due("about(0)", press.about(0), 3);
        press.print(Double.doubleToLongBits(1e-7));
        Bench.due("about(1)", press.about(1), 4);
    }
}
