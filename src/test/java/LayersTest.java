/** Promises 4 to 6: layers told on the pad, with and without a fault. */
public final class LayersTest {
    private static final Check CHECK = new Check("LayersTest");

    public static void main(String[] args) {
        fault();
        about();
        CHECK.end();
    }

    private static void faultOf(String told, int want) {
        CHECK.due("fault of " + told, Check.pad(new QuotedLayers(), told).fault(), want);
    }

    private static void fault() {
        int none = QuotedLayers.NONE;
        // marks
        faultOf("", 0);
        faultOf("00", 0);
        faultOf("91\\", 0);
        faultOf("a0", 0);
        faultOf("f0", 0);
        faultOf("g0", none);
        faultOf("A0", none);
        faultOf("F0", none);
        faultOf("-0", none);
        faultOf("!0", none);
        faultOf("~0", none);
        // ways
        faultOf("-", 1);
        faultOf("\"", 1);
        faultOf("\"4", 1);
        faultOf("\"9", 1);
        faultOf("\"/", 1);
        faultOf("\"x", 1);
        faultOf("-2", 1);
        faultOf("-2x", 1);
        faultOf("\"2", none);
        faultOf("\"2x", 2);
        // masks
        faultOf("\"1", 2);
        faultOf("\"3", 2);
        faultOf("-1", 2);
        faultOf("-3", 2);
        faultOf("\"1\"", 2);
        faultOf("\"3\"", 2);
        faultOf("\"1-", 2);
        faultOf("-1-", 2);
        faultOf("\"17", 2);
        faultOf("\"3c", 2);
        faultOf("\"1\\", none);
        faultOf("-3%", none);
        faultOf("-1C", none);
        // held signs
        faultOf("\"0\"", 2);
        faultOf("\"0-", 2);
        faultOf("-0-", 2);
        faultOf("-0x", none);
        faultOf("-0xx", 3);
        faultOf("-0x0", 3);
        faultOf("-0xb", 3);
        faultOf("\"1\\\\", 3);
        faultOf("\"1\\\"", 3);
        faultOf("\"1\\x\"", 4);
        faultOf("\"1\\xy\\", 5);
        faultOf("\"1\\xyx", 5);
        faultOf("-0ghijkl", none);
        faultOf("-0ghijklm", 8);
        faultOf("\"1\\ghijkl", none);
        faultOf("\"1\\ghijklm", 9);
        faultOf("-3%ghijkl", none);
        faultOf("-3%ghijkl7", 9);
        faultOf("-0gg7", 3);
    }

    private static void aboutAll(QuotedLayers q, int layer, int... want) {
        for (int what = 0; what <= 8; what++) {
            int due = what < want.length ? want[what] : QuotedLayers.NONE;
            CHECK.due("about(" + layer + ", " + what + ")", q.about(layer, what), due);
        }
    }

    private static void about() {
        int none = QuotedLayers.NONE;
        QuotedLayers q = Check.withLayers("\"1\\<!", "-3%ghijkl", "'2", "$0&", "-0");
        aboutAll(q, 0, '"', 1, '\\', '<', '!');
        aboutAll(q, 1, none, 3, '%', 'g', 'h', 'i', 'j', 'k', 'l');
        aboutAll(q, 2, '\'', 2);
        aboutAll(q, 3, '$', 0, none, '&');
        aboutAll(q, 4, none, 0);
        CHECK.due("about(5, 0)", q.about(5, 0), QuotedLayers.UNKNOWN);
        CHECK.due("about(-1, 0)", q.about(-1, 0), QuotedLayers.UNKNOWN);
        CHECK.due("about(-1, 9)", q.about(-1, 9), QuotedLayers.UNKNOWN);
        CHECK.due("about(0, 9)", q.about(0, 9), QuotedLayers.OUTSIDE);
        CHECK.due("about(0, -1)", q.about(0, -1), QuotedLayers.OUTSIDE);
        CHECK.due("about(0, greatest)", q.about(0, Integer.MAX_VALUE), QuotedLayers.OUTSIDE);
    }
}
