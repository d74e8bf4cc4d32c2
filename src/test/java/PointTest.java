/** Promise 15: POINTERS. */
public final class PointTest {
    private static final int NONE = CanonPress.NONE;
    private static final int BAD = -2;
    private static final Bench bench = new Bench();

    public static void main(String[] args) {
        pointsIntoObjects();
        pointsIntoArrays();
        refusesBadOnes();
        refusesShelves();
        Bench.close("PointTest");
    }

    private static void points(String pointer, int due) {
        points(Bench.utf8(pointer), pointer, due);
    }

    private static void points(byte[] pointer, String told, int due) {
        bench.lay(pointer);
        Bench.due("point by " + told, bench.press.point(0), due);
        Bench.due("the tape is empty behind " + told, bench.press.about(0), 0);
    }

    /** The document of RFC 6901, 5. */
    private static void pointsIntoObjects() {
        bench.put(0, "{\"foo\":[\"bar\",\"baz\"],\"\":0,\"a/b\":1,\"c%d\":2,\"e^f\":3,\"g|h\":4,\"i\\\\j\":5,"
                + "\"k\\\"l\":6,\" \":7,\"m~n\":8,\"\u00e9\ud83d\ude00\":9,\"\\u0000\":10,\"01\":11,\"~1\":12}");
        points("", 0);
        pointsAt("/foo", "[\"bar\",\"baz\"]");
        pointsAt("/foo/0", "\"bar\"");
        pointsAt("/foo/1", "\"baz\"");
        pointsAt("/", "0");
        pointsAt("/a~1b", "1");
        pointsAt("/c%d", "2");
        pointsAt("/e^f", "3");
        pointsAt("/g|h", "4");
        pointsAt("/i\\j", "5");
        pointsAt("/k\"l", "6");
        pointsAt("/ ", "7");
        pointsAt("/m~0n", "8");
        pointsAt("/\u00e9\ud83d\ude00", "9");
        pointsAt("/\u0000", "10");
        pointsAt("/01", "11");
        pointsAt("/~01", "12");
        for (String none : new String[] {"/fo", "/fooo", "/a", "/foo/2", "/foo/bar", "/foo/0/0", "//", "/ /0",
            "/FOO", "/nothing/at/all", "/foo/-", "/foo/", "/a/b", "/~0", "/~01/x"}) {
            points(none, NONE);
        }
    }

    private static void pointsAt(String pointer, String form) {
        bench.lay(pointer);
        int number = bench.press.point(0);
        Bench.due("what " + pointer + " points to", bench.formOf(0, number), form);
    }

    private static void pointsIntoArrays() {
        bench.put(0, "[[1,[2]],{\"0\":3,\"1\":[4]},5,6,7,8,9,10,11,12,13]");
        points("/0", 1);
        points("/0/0", 2);
        points("/0/1", 3);
        points("/0/1/0", 4);
        points("/1", 5);
        points("/1/0", 6);
        points("/1/1/0", 8);
        points("/2", 9);
        points("/9", 16);
        points("/10", 17);
        for (String none : new String[] {"/0/2", "/0/1/1", "/0/1/2", "/1/2", "/1/1/1", "/11", "/00", "/01", "/-", "/-1", "/", "/1e0", "/ 1", "/1 ", "/+1",
            "/2147483648", "/4294967296", "/18446744073709551616", "/99999999999999999999999", "/x", "/0x1",
            "/\u0661", "/2/0", "/2/", "/10/0", "/~0", "/~1"}) {
            points(none, NONE);
        }
        points("/" + "1".repeat(1999), NONE);
        points("/".repeat(2000), NONE);
        bench.put(0, "[" + "0,".repeat(498) + "0]");
        points("/498", 499);
        points("/499", NONE);
        for (String none : new String[] {"/x", "/:", "/;", "/1:", "/ ", "/1 ", "/-1", "/+1", "/1-", "/3x", "/A", "/\u00e9",
            "/\u0130", "/0000", "/0498", "/1e1", "/1.0"}) {
            points(none, NONE);
        }
        bench.put(0, "{\"a\":{\"b\":1},\"c\":2,\"d\":{\"c\":3}}");
        points("/c", 3);
        points("/a/c", NONE);
        points("/a/d", NONE);
        points("/d/c", 5);
        points("/b", NONE);
        bench.put(0, "7");
        points("", 0);
        points("/", NONE);
        points("/0", NONE);
        bench.put(0, "\"abc\"");
        points("/0", NONE);
        bench.put(0, "[]");
        points("/0", NONE);
        bench.put(0, "{\"\":{\"\":{}}}");
        points("//", 2);
        points("/", 1);
        points("///", NONE);
    }

    private static void refusesBadOnes() {
        bench.put(0, "{\"a\":1,\"~\":2,\"~2\":3,\"b\":\"s\"}");
        for (String bad : new String[] {"a", " /a", "~", "~0", "/~", "/~2", "/a~", "/~~", "/a/~x", "/~/", "0",
            "#", "#/a", "/b/b/~3", "/nothing/~"}) {
            points(bad, BAD);
        }
        int[][] bytes = {{'/', 0x80}, {'/', 0xC3}, {'/', 0xC0, 0x80}, {'/', 0xED, 0xA0, 0x80}, {'/', 0xFF},
            {'/', 'a', '/', 0xF4, 0x90, 0x80, 0x80}, {'/', 0xE2, 0x82, '/'}, {'/', 'x', '/', 0xBF}};
        for (int[] row : bytes) {
            byte[] pointer = new byte[row.length];
            for (int i = 0; i < row.length; i++) {
                pointer[i] = (byte) row[i];
            }
            points(pointer, "bad UTF-8", BAD);
        }
    }

    private static void refusesShelves() {
        for (int shelf : new int[] {1, 7, 8, -1, Integer.MAX_VALUE, Integer.MIN_VALUE}) {
            bench.lay("/a");
            Bench.due("point without a document", bench.press.point(shelf), BAD);
            Bench.due("the tape is empty", bench.press.about(0), 0);
        }
    }
}
