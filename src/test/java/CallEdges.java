/** Promises 1 to 4, 8 and 20, and what the Terms say of all calls: each boundary, from both of its sides. */
final class CallEdges {
    private static final int NONE = CanonPress.NONE;

    private CallEdges() {
    }

    static void all() {
        memoryIsItsOwn();
        refusedCallsChangeNothing();
        noneIsMinusOne();
        newOnesAreEmpty();
        feedBringsTwenty();
        feedRefuses();
        endCuts();
        endRefuses();
        takeBringsOut();
        takeRefuses();
        outTellsBytes();
        outTellsNone();
        aboutTells();
        aboutRefuses();
    }

    private static void memoryIsItsOwn() {
        Edges.says("All memory is the press's own;");
        Bench one = Edges.busy();
        Bench other = new Bench();
        for (int shelf = 0; shelf < 8; shelf++) {
            other.put(shelf, "[" + shelf + "]");
        }
        other.press.round(Double.doubleToLongBits(0.1), 800);
        other.lay("x".repeat(2000));
        Bench.due("the first press is as it was", Edges.stateOf(one), Edges.stateOf(Edges.busy()));
        Bench.due("and so is the other", other.press.about(0), 2000);
        Bench.due("and so is the other", other.press.about(1), 804);
        Bench.due("and so is the other", other.formOf(5), "[5]");
        Bench.due("a new one is empty", new CanonPress().about(2), 0);
    }

    private static void refusedCallsChangeNothing() {
        Edges.says("a call that is refused changes nothing but what it says.");
        Edges.refuses("end(-1)", press -> press.end(-1), NONE);
        Edges.refuses("out(-1)", press -> press.out(-1), NONE);
        Edges.refuses("document(8)", press -> press.document(8), NONE);
        Edges.refuses("form(8, 0)", press -> press.form(8, 0), NONE);
        Edges.refuses("value(8, 0, 0)", press -> press.value(8, 0, 0), NONE);
        Edges.refuses("bits(8, 0)", press -> press.bits(8, 0), 0);
        Edges.refuses("character(8, 0, 0, 0)", press -> press.character(8, 0, 0, 0), NONE);
        Edges.refuses("same(8, 0, 0, 0)", press -> press.same(8, 0, 0, 0), NONE);
        Edges.refuses("merge(5, 6, 0)", press -> press.merge(5, 6, 0), NONE);
        Edges.refuses("patch(5, 0, 1)", press -> press.patch(5, 0, 1), -2);
        Edges.refuses("part(0, 6, 1)", press -> press.part(0, 6, 1), NONE);
        Edges.refuses("print(endless)", press -> press.print(0x7FF0000000000000L), NONE);
        Edges.refuses("round(1, 0)", press -> press.round(1, 0), NONE);
        Edges.refuses("about(3)", press -> press.about(3), NONE);
        Edges.refusesAndEmpties("numeral()", "x", CanonPress::numeral, 9221120237041090560L);
        Edges.refusesAndEmpties("point(0)", "x", press -> press.point(0), -2);
        Edges.refusesAndEmpties("point(0)", "/x", press -> press.point(0), NONE);
        // A FAULT tells its place and empties the TAPE; all else stays.
        Edges.refusesAndEmpties("document(0) with a FAULT at the same place", "[2,y]", press -> press.document(0), 1);
        feedAndTakeChangeNothing();
    }

    private static void feedAndTakeChangeNothing() {
        String full = "\"" + "t".repeat(1979) + "\"";
        Bench bench = Edges.busy();
        bench.lay(full);
        Bench other = Edges.busy();
        other.lay(full);
        Bench.due("feed where 19 are free", bench.press.feed(-1, -1, -1, -1, -1), NONE);
        Bench.due("the state behind feed", Edges.stateOf(bench), Edges.stateOf(other));
        bench.lay("\"t\"");
        other.lay("\"t\"");
        bench.press.form(4, 0);
        other.press.form(4, 0);
        Bench.due("take of more than 2000", bench.press.take(), NONE);
        Bench.due("the state behind take", Edges.stateOf(bench), Edges.stateOf(other));
    }

    private static void noneIsMinusOne() {
        Edges.says("The constants: `NONE = -1`: There is none.");
        Bench.due("NONE", CanonPress.NONE, -1);
    }

    private static void newOnesAreEmpty() {
        Edges.says(1, "No documents, an empty TAPE and OUT.");
        CanonPress press = new CanonPress();
        for (int what = 0; what < 3; what++) {
            Bench.due("about(" + what + ")", press.about(what), 0);
        }
        for (int shelf = 0; shelf < 8; shelf++) {
            Bench.due("no document on SHELF " + shelf, press.form(shelf, 0), NONE);
            Bench.due("no VALUE on SHELF " + shelf, press.value(shelf, 0, 4), NONE);
            Bench.due("nothing to point into", press.point(shelf), -2);
        }
        Bench.due("out(0)", press.out(0), NONE);
        Bench.due("end(1)", press.end(1), NONE);
        Bench.due("place()", press.place(), NONE);
        Bench.due("an empty OUT can be taken", press.take(), 0);
        Bench.due("an empty TAPE is no NUMERAL", press.numeral(), 9221120237041090560L);
        Bench.due("nor a TEXT", press.document(0), 1);
        Bench.due("about(2) still", press.about(2), 0);
    }

    private static void feedBringsTwenty() {
        Edges.says(2, "Twenty bytes come behind those on the TAPE, the highest of each first: how many there are;");
        Bench bench = new Bench();
        CanonPress press = bench.press;
        Bench.due("feed", press.feed(0x22303132, 0x33343536, 0x3738393A, 0x3B3C3D3E, 0x3F404142), 20);
        Bench.due("feed", press.feed(0x43444546, 0x4748494A, 0x4B4C4D4E, 0x4F505152, 0x53545522), 40);
        Bench.due("document", press.document(0), 0);
        Bench.due("the bytes in their order", bench.formOf(0), "\"0123456789:;<=>?@ABCDEFGHIJKLMNOPQRSTU\"");
        // The highest bit of an int is no sign of its byte.
        Bench.due("feed", press.feed(0x22F48FBF, 0xBFDFBFC2, 0x80EFBFBF, 0x7F222020, 0x20202020), 20);
        Bench.due("document", press.document(0), 0);
        int[] due = {0x10FFFF, 0x7FF, 0x80, 0xFFFF, 0x7F, NONE};
        for (int i = 0; i < due.length; i++) {
            Bench.due("CHARACTER " + i, press.character(0, 0, 1, i), due[i]);
        }
        Bench.due("feed of 0s", press.feed(0, 0, 0, 0, 0), 20);
        Bench.due("they are bytes", press.document(0), 1);
        Bench.due("the first of them", press.place(), 0);
        press.feed(0x31323334, 0, 0, 0, 0);
        press.end(3);
        Bench.due("behind three", press.feed(0x35363738, 0x39303132, 0x33343536, 0x37383930, 0x31323334), 23);
        Bench.due("numeral", press.numeral(), Double.doubleToLongBits(12356789012345678901234.0));
    }

    private static void feedRefuses() {
        Edges.says(2, "NONE, and nothing comes, if there would be more than 2000.");
        for (int length = 1979; length <= 2000; length++) {
            Bench bench = Edges.laid("\"" + "x".repeat(length - 2) + "\"");
            boolean fits = length <= 1980;
            int due = fits ? length + 20 : NONE;
            Bench.due("feed onto " + length, bench.press.feed(0x20202020, 0x20202020, 0x20202020, 0x20202020, 0x20202020), due);
            Bench.due("about(0)", bench.press.about(0), fits ? length + 20 : length);
            Bench.due("the TAPE is as it was", bench.press.document(0), 0);
            Bench.due("all of it", bench.press.value(0, 0, 1), length - 2);
        }
        CanonPress press = new CanonPress();
        for (int i = 1; i <= 100; i++) {
            Bench.due("feed " + i, press.feed(i, i, i, i, i), 20 * i);
        }
        for (int i = 0; i < 3; i++) {
            Bench.due("feed 101", press.feed(0, 0, 0, 0, 0), NONE);
        }
        Bench.due("about(0)", press.about(0), 2000);
    }

    private static void endCuts() {
        Edges.says(3, "The TAPE has its first n bytes: n;");
        for (int n = 1; n <= 6; n++) {
            Bench bench = Edges.laid("123456");
            Bench.due("end(" + n + ")", bench.press.end(n), n);
            Bench.due("about(0)", bench.press.about(0), n);
            Bench.due("numeral", bench.press.numeral(), Double.doubleToLongBits(Long.parseLong("123456".substring(0, n))));
        }
        Bench bench = Edges.laid("123456");
        Bench.due("end(0)", bench.press.end(0), 0);
        Bench.due("about(0)", bench.press.about(0), 0);
        Bench.due("end(0) of nothing", bench.press.end(0), 0);
        Bench full = Edges.laid("1".repeat(2000));
        Bench.due("end(2000)", full.press.end(2000), 2000);
        Bench.due("end(1999)", full.press.end(1999), 1999);
        Bench.due("end(2000) then", full.press.end(2000), NONE);
    }

    private static void endRefuses() {
        Edges.says(3, "NONE, doing nothing, if it has not so many, or n is below 0.");
        for (int n : new int[] {-1, -2, -20, Edges.LEAST, 20, 21, 2000, 2001, Edges.MOST}) {
            Edges.refuses("end(" + n + ")", press -> press.end(n), NONE);
        }
        Bench.due("the TAPE there has 19", Edges.busy().press.about(0), 19);
        Bench.due("of a new press", new CanonPress().end(1), NONE);
        Bench full = Edges.laid("1".repeat(2000));
        Bench.due("of a full one", full.press.end(2001), NONE);
    }

    /** A press whose OUT, the form of what is on SHELF 2, has so many bytes: 1005 are not of the second STRING. */
    private static Bench withOutOf(int length) {
        Bench bench = Edges.shelved("{'a':'" + "x".repeat(990) + "'}", "{'b':'" + "y".repeat(length - 1005) + "'}");
        bench.press.merge(0, 1, 2);
        Bench.due("form", bench.press.form(2, 0), length);
        return bench;
    }

    private static void takeBringsOut() {
        Edges.says(4, "The TAPE has the bytes of OUT, if these are 2000 at most: how many;");
        for (int length : new int[] {1980, 1999, 2000}) {
            Bench bench = withOutOf(length);
            bench.lay("7");
            Bench.due("take", bench.press.take(), length);
            Bench.due("about(0)", bench.press.about(0), length);
            Bench.due("about(1) stays", bench.press.about(1), length);
            Bench.due("document", bench.press.document(3), 0);
            Bench.due("it is what OUT was", bench.press.same(2, 0, 3, 0), 1);
            Bench.due("take again", bench.press.take(), length);
        }
        Bench bench = Edges.laid("12345678901234567890");
        bench.press.print(Double.doubleToLongBits(7));
        Bench.due("a shorter OUT", bench.press.take(), 1);
        Bench.due("nothing else is on the TAPE", bench.press.numeral(), Double.doubleToLongBits(7));
        CanonPress empty = new CanonPress();
        empty.feed(1, 2, 3, 4, 5);
        Bench.due("an empty OUT", empty.take(), 0);
        Bench.due("the TAPE is empty, too", empty.about(0), 0);
    }

    private static void takeRefuses() {
        Edges.says(4, "NONE, doing nothing, if they are more.");
        for (int length : new int[] {2001, 2002, 2019}) {
            Bench bench = withOutOf(length);
            bench.lay("77");
            Bench.due("take of " + length, bench.press.take(), NONE);
            Bench.due("about(0)", bench.press.about(0), 2);
            Bench.due("about(1)", bench.press.about(1), length);
            Bench.due("the TAPE stays", bench.press.numeral(), Double.doubleToLongBits(77));
        }
    }

    private static void outTellsBytes() {
        Edges.says(8, "Byte i of OUT, 0 .. 255;");
        Bench bench = Edges.shelved("'\udbff\udfff\u0080\\u0000'");
        bench.press.form(0, 0);
        int[] due = {34, 0xF4, 0x8F, 0xBF, 0xBF, 0xC2, 0x80, 92, 'u', '0', '0', '0', '0', 34};
        for (int i = 0; i < due.length; i++) {
            Bench.due("out(" + i + ")", bench.press.out(i), due[i]);
        }
        bench.press.round(0, 800);
        Bench.due("the last of a long one", bench.press.out(802), '+');
        Bench.due("the last of a long one", bench.press.out(803), '0');
    }

    private static void outTellsNone() {
        Edges.says(8, "NONE if there is none such.");
        Bench bench = new Bench();
        Bench.due("of nothing", bench.press.out(0), NONE);
        bench.press.round(0, 800);
        Bench.due("behind the last one", bench.press.out(804), NONE);
        bench.press.print(Double.doubleToLongBits(12));
        Bench.due("the last one", bench.press.out(1), '2');
        for (int i : new int[] {2, 3, 803, 11999, 12000, 12001, -1, -2, Edges.LEAST, Edges.MOST}) {
            Bench.due("out(" + i + ")", bench.press.out(i), NONE);
        }
    }

    private static void aboutTells() {
        Edges.says(20, "What 0: bytes on the TAPE, 1: of OUT (those that are kept), 2: SHELVES that have DOCUMENTS.");
        Bench bench = new Bench();
        CanonPress press = bench.press;
        for (int what = 0; what < 3; what++) {
            Bench.due("about(" + what + ") of a new press", press.about(what), 0);
        }
        bench.lay("1".repeat(2000));
        Bench.due("a full TAPE", press.about(0), 2000);
        press.round(0, 800);
        Bench.due("OUT", press.about(1), 804);
        for (int shelf = 0; shelf < 8; shelf++) {
            bench.put(shelf, "null");
            Bench.due("about(2)", press.about(2), shelf + 1);
            bench.put(shelf, "[]");
            Bench.due("about(2) with another one", press.about(2), shelf + 1);
        }
        Bench.due("the TAPE is empty", press.about(0), 0);
        for (int length : new int[] {11999, 12000, 12001}) {
            Bench large = Edges.withFormOf(length);
            Bench.due("form", large.press.form(0, 0), length);
            Bench.due("those that are kept", large.press.about(1), Math.min(12000, length));
        }
    }

    private static void aboutRefuses() {
        Edges.says(20, "NONE for others.");
        for (int what : new int[] {-1, 3, 4, Edges.LEAST, Edges.MOST}) {
            Edges.refuses("about(" + what + ")", press -> press.about(what), NONE);
        }
    }
}
