/** Promises 1 to 6. */
public final class LayersTest {
    private static final Check CHECK = new Check("LayersTest");

    public static void main(String[] args) {
        newObject();
        say();
        wipe();
        fault();
        layer();
        about();
        CHECK.end();
    }

    private static void newObject() {
        QuotedLayers q = new QuotedLayers();
        for (int layer = 0; layer < 5; layer++) {
            CHECK.due("new about(" + layer + ", 0)", q.about(layer, 0), QuotedLayers.NONE);
            CHECK.due("new about(" + layer + ", 1)", q.about(layer, 1), 0);
            for (int what = 2; what <= 8; what++) {
                CHECK.due("new about(" + layer + ", " + what + ")", q.about(layer, what), QuotedLayers.NONE);
            }
        }
        CHECK.due("new told(0)", q.told(0), 0);
        CHECK.due("new told(1)", q.told(1), 1);
        CHECK.due("new told(20)", q.told(20), 'x');
        CHECK.due("new told(2)", q.told(2), 0);
        CHECK.due("new told(10)", q.told(10), QuotedLayers.NONE);
        CHECK.due("new restore(0)", q.restore(0), QuotedLayers.STATE);
        CHECK.due("new restore(1)", q.restore(1), QuotedLayers.STATE);
    }

    private static void say() {
        QuotedLayers q = new QuotedLayers();
        CHECK.due("say(32)", q.say(32), QuotedLayers.OUTSIDE);
        CHECK.due("say(127)", q.say(127), QuotedLayers.OUTSIDE);
        CHECK.due("say(-1)", q.say(-1), QuotedLayers.OUTSIDE);
        CHECK.due("say(least)", q.say(Integer.MIN_VALUE), QuotedLayers.OUTSIDE);
        CHECK.due("say(greatest)", q.say(Integer.MAX_VALUE), QuotedLayers.OUTSIDE);
        CHECK.due("say(33)", q.say(33), 1);
        CHECK.due("say(126)", q.say(126), 2);
        for (int i = 3; i <= 60; i++) {
            CHECK.due("say no. " + i, q.say('y'), i);
        }
        CHECK.due("say no. 61", q.say('y'), QuotedLayers.FULL);
        CHECK.due("say(32) on a full pad", q.say(32), QuotedLayers.OUTSIDE);
        CHECK.due("told(0) when full", q.told(0), 60);
        CHECK.due("the first sign said", q.read(0), 33);
        CHECK.due("the second sign said", q.read(1), 126);
        CHECK.due("the last sign said", q.read(59), 'y');
    }

    private static void wipe() {
        QuotedLayers q = new QuotedLayers();
        CHECK.due("wipe of nothing", q.wipe(), 0);
        Check.pad(q, "abc");
        CHECK.due("wipe of three", q.wipe(), 3);
        CHECK.due("wipe again", q.wipe(), 0);
        CHECK.due("told(0) when wiped", q.told(0), 0);
        CHECK.due("say when wiped", q.say('z'), 1);
    }

    private static void faultOf(String told, int want) {
        CHECK.due("fault of " + told, Check.pad(new QuotedLayers(), told).fault(), want);
    }

    private static void fault() {
        int none = QuotedLayers.NONE;
        // marks
        faultOf("", 0);
        faultOf("00", 0);
        faultOf("91\\", 0);
        faultOf("a0", 0);
        faultOf("f0", 0);
        faultOf("g0", none);
        faultOf("A0", none);
        faultOf("F0", none);
        faultOf("-0", none);
        faultOf("!0", none);
        faultOf("~0", none);
        // ways
        faultOf("-", 1);
        faultOf("\"", 1);
        faultOf("\"4", 1);
        faultOf("\"9", 1);
        faultOf("\"/", 1);
        faultOf("\"x", 1);
        faultOf("-2", 1);
        faultOf("-2x", 1);
        faultOf("\"2", none);
        faultOf("\"2x", 2);
        // masks
        faultOf("\"1", 2);
        faultOf("\"3", 2);
        faultOf("-1", 2);
        faultOf("-3", 2);
        faultOf("\"1\"", 2);
        faultOf("\"3\"", 2);
        faultOf("\"1-", 2);
        faultOf("-1-", 2);
        faultOf("\"17", 2);
        faultOf("\"3c", 2);
        faultOf("\"1\\", none);
        faultOf("-3%", none);
        faultOf("-1C", none);
        // held signs
        faultOf("\"0\"", 2);
        faultOf("\"0-", 2);
        faultOf("-0-", 2);
        faultOf("-0x", none);
        faultOf("-0xx", 3);
        faultOf("-0x0", 3);
        faultOf("-0xb", 3);
        faultOf("\"1\\\\", 3);
        faultOf("\"1\\\"", 3);
        faultOf("\"1\\x\"", 4);
        faultOf("\"1\\xy\\", 5);
        faultOf("\"1\\xyx", 5);
        faultOf("-0ghijkl", none);
        faultOf("-0ghijklm", 8);
        faultOf("\"1\\ghijkl", none);
        faultOf("\"1\\ghijklm", 9);
        faultOf("-3%ghijkl", none);
        faultOf("-3%ghijkl7", 9);
        faultOf("-0gg7", 3);
    }

    private static void layer() {
        QuotedLayers q = new QuotedLayers();
        Check.pad(q, "\"1\\<!");
        CHECK.due("layer(5)", q.layer(5), QuotedLayers.UNKNOWN);
        CHECK.due("layer(-1)", q.layer(-1), QuotedLayers.UNKNOWN);
        CHECK.due("the pad stays", q.told(0), 5);
        CHECK.due("layer(4)", q.layer(4), 2);
        CHECK.due("the pad is empty", q.told(0), 0);
        CHECK.due("layer(4) of an empty pad", q.layer(4), QuotedLayers.NO);
        CHECK.due("layer(5) of an empty pad", q.layer(5), QuotedLayers.UNKNOWN);
        Check.pad(q, "'2x");
        CHECK.due("layer(4) with a fault", q.layer(4), QuotedLayers.NO);
        CHECK.due("the pad stays", q.told(0), 3);
        CHECK.due("the layer stays", q.about(4, 0), '"');
        Check.pad(q, "'2");
        CHECK.due("layer(4) anew", q.layer(4), 0);
        CHECK.due("its mark", q.about(4, 0), '\'');
        CHECK.due("no mask is left", q.about(4, 2), QuotedLayers.NONE);
        CHECK.due("no held sign is left", q.about(4, 3), QuotedLayers.NONE);
        Check.pad(q, "-0ghijkl");
        CHECK.due("layer(0) of six held signs", q.layer(0), 6);
        Check.pad(q, "-3%;");
        CHECK.due("layer(1)", q.layer(1), 1);
    }

    private static void aboutAll(QuotedLayers q, int layer, int... want) {
        for (int what = 0; what <= 8; what++) {
            int due = what < want.length ? want[what] : QuotedLayers.NONE;
            CHECK.due("about(" + layer + ", " + what + ")", q.about(layer, what), due);
        }
    }

    private static void about() {
        int none = QuotedLayers.NONE;
        QuotedLayers q = Check.withLayers("\"1\\<!", "-3%ghijkl", "'2", "$0&", "-0");
        aboutAll(q, 0, '"', 1, '\\', '<', '!');
        aboutAll(q, 1, none, 3, '%', 'g', 'h', 'i', 'j', 'k', 'l');
        aboutAll(q, 2, '\'', 2);
        aboutAll(q, 3, '$', 0, none, '&');
        aboutAll(q, 4, none, 0);
        CHECK.due("about(5, 0)", q.about(5, 0), QuotedLayers.UNKNOWN);
        CHECK.due("about(-1, 0)", q.about(-1, 0), QuotedLayers.UNKNOWN);
        CHECK.due("about(-1, 9)", q.about(-1, 9), QuotedLayers.UNKNOWN);
        CHECK.due("about(0, 9)", q.about(0, 9), QuotedLayers.OUTSIDE);
        CHECK.due("about(0, -1)", q.about(0, -1), QuotedLayers.OUTSIDE);
        CHECK.due("about(0, greatest)", q.about(0, Integer.MAX_VALUE), QuotedLayers.OUTSIDE);
    }
}
