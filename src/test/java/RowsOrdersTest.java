/** Promises 19 to 22, with ordinary layers and texts. */
public final class RowsOrdersTest {
    private static final Check CHECK = new Check("RowsOrdersTest");

    public static void main(String[] args) {
        rows();
        order();
        orderOfNoLayers();
        orderLeftOut();
        image();
        imagesApart();
        CHECK.end();
    }

    private static void rows() {
        CHECK.due("no layer is told", Check.rows(new QuotedLayers(), "abc"), "0");
        QuotedLayers q = Check.withLayers("\"1\\", "'2");
        CHECK.due("neither", Check.rows(q, "abc"), "0");
        CHECK.due("one of them", Check.rows(q, "'abc'"), "1 11");
        CHECK.due("one within the other", Check.rows(q, "'\"x\\\"\"'"), "2 11 101");
        CHECK.due("the other way round", Check.rows(q, "\"'x'\""), "2 10 110");
        CHECK.due("three layers", Check.rows(q, "\"'\\\"x\\\"'\""), "3 10 110 1010");
        CHECK.due("wholly, though nothing comes out", Check.rows(q, "''"), "1 11");
        CHECK.due("not wholly", Check.rows(q, "'\"x'"), "1 11");
        q = Check.withLayers("$0", "\"1\\", "'2", "~0");
        CHECK.due("no fourth layer", Check.rows(q, "~$\"'x'\"$~"), "3 13 103 1103");
        q = Check.withLayers("-0", "-0", "-1\\", "-0", "-0!");
        CHECK.due("by length, then from the innermost", Check.rows(q, "x"),
            "14 12 14 122 124 142 144 1222 1224 1242 1244 1422 1424 1442 1444");
        CHECK.due("a held sign bars some", Check.rows(q, "!"), "3 12 122 1222");
        q = Check.made("22", "y", "-1\\", "", "", "", "\"3%");
        CHECK.due("whatever the chain", Check.rows(q, "\"%41\\\\\""), "7 10 14 100 104 140 1000 1400");
        q = Check.withLayers("-0!", "-0\"", "-0$", "-0%", "-0&");
        CHECK.due("all of five layers", Check.pad(q, "x").rows(-1), 155);
        CHECK.due("the first of all", q.rows(0), 10);
        CHECK.due("the fifth", q.rows(4), 14);
        CHECK.due("the sixth", q.rows(5), 100);
        CHECK.due("the last of two", q.rows(29), 144);
        CHECK.due("the first of three", q.rows(30), 1000);
        CHECK.due("the last", q.rows(154), 1444);
        CHECK.due("no more", q.rows(155), QuotedLayers.NONE);
        // a layer told as at first once more is as at first
        Check.pad(q, "-0").layer(0);
        CHECK.due("four layers", Check.pad(q, "x").rows(-1), 84);
        CHECK.due("the first of four", q.rows(0), 11);
    }

    private static void order() {
        CHECK.due("one layer", Check.order(Check.made("0", "x", "\"1\\")), "3 0");
        CHECK.due("of several the first", Check.order(Check.made("01", "x", "\"1\\", "'2")), "5 0 1");
        CHECK.due("one layer three times", Check.order(Check.made("000", "x", "-1\\")), "1 0 1 2");
        // numbers first leave no < that a mask must stand ahead of
        CHECK.due("as it is", Check.order(Check.made("01", "<<", "-3%<", "-1\\<")), "6 0 1");
        CHECK.due("the other way round", Check.order(Check.made("10", "<<", "-3%<", "-1\\<")), "6 1 0");
        CHECK.due("places, not layers", Check.order(Check.made("4210", "<<", "-3%<", "-1\\<", "$2")), "8 0 1 3 2");
        QuotedLayers q = Check.made("01234", "\"&<$'x%", "\"1\\<!", "-1&~", "'3%;&", "$2", "-0");
        CHECK.due("five layers", Check.order(q), "22 0 2 1 3 4");
        q = Check.made("43210", "\"&<$'x%", "\"1\\<!", "-1&~", "'3%;&", "$2", "-0");
        CHECK.due("five layers backward", Check.order(q), "22 0 1 2 3 4");
        CHECK.due("order(-2)", q.order(-2), QuotedLayers.NONE);
        CHECK.due("order(5)", q.order(5), QuotedLayers.NONE);
        CHECK.due("order(least)", q.order(Integer.MIN_VALUE), QuotedLayers.NONE);
        CHECK.due("order(greatest)", q.order(Integer.MAX_VALUE), QuotedLayers.NONE);
        CHECK.due("the chain stays", q.told(10), 4);
        CHECK.due("the chain stays to the end", q.told(14), 0);
    }

    private static void orderOfNoLayers() {
        QuotedLayers q = new QuotedLayers();
        noOrder("a new object", q);
        Check.pad(q, "abc").text();
        noOrder("another text", q);
        q.image(0);
        q.chain(3);
        CHECK.due("a layer as at first", Check.order(q), "3 0");
        q.unchain();
        noOrder("unchained", q);
        q.chain(0);
        q.chain(1);
        CHECK.due("two layers", Check.order(q), "3 0 1");
        q.restore(0);
        noOrder("restored", q);
        Check.pad(q, "\"1\\").layer(0);
        noOrder("layers told, none chained", q);
    }

    private static void noOrder(String when, QuotedLayers q) {
        int[] asked = {-1, 0, 1, 4, 5, -2, Integer.MIN_VALUE, Integer.MAX_VALUE};
        for (int i : asked) {
            CHECK.due(when + ", order(" + i + ")", q.order(i), QuotedLayers.NONE);
        }
    }

    private static void orderLeftOut() {
        QuotedLayers q = Check.made("10", "x<", "-3%<", "-0<");
        CHECK.due("the barred order is left out", Check.order(q), "4 1 0");
        q = Check.made("1", "x<", "-3%<", "-0<");
        CHECK.due("all are barred", q.order(-1), QuotedLayers.NONE);
        CHECK.due("all are barred, i-th", q.order(0), QuotedLayers.NONE);
        q = Check.made("10", "x<", "-3%<", "-0<");
        CHECK.due("an order is found", q.order(0), 1);
        q.unchain();
        CHECK.due("none is found behind that", q.order(0), QuotedLayers.NONE);
        q = Check.made("00000", "''''''''''''", "'2");
        CHECK.due("all are too long", q.order(-1), QuotedLayers.NONE);
        CHECK.due("all are too long, i-th", q.order(0), QuotedLayers.NONE);
        // numbers last are 192 by 3; numbers first are 12 by 3, of which 12 are doubled four times
        q = Check.made("11110", "\\\\\\\\\\\\\\\\\\\\\\\\", "-3%\\", "-1\\");
        CHECK.due("the long orders are left out", Check.order(q), "36 4 0 1 2 3");
        Check.pad(q, "x").text();
        CHECK.due("with a text that needs nothing", Check.order(q), "1 0 1 2 3 4");
    }

    private static void image() {
        QuotedLayers q = Check.made("01", "ab", "\"1\\<", "'2");
        CHECK.due("image(-1)", q.image(-1), QuotedLayers.OUTSIDE);
        CHECK.due("image(2)", q.image(2), QuotedLayers.OUTSIDE);
        CHECK.due("image(least)", q.image(Integer.MIN_VALUE), QuotedLayers.OUTSIDE);
        CHECK.due("restore(-1)", q.restore(-1), QuotedLayers.OUTSIDE);
        CHECK.due("restore(2)", q.restore(2), QuotedLayers.OUTSIDE);
        CHECK.due("restore(greatest)", q.restore(Integer.MAX_VALUE), QuotedLayers.OUTSIDE);
        CHECK.due("restore(1) not kept", q.restore(1), QuotedLayers.STATE);
        Check.pad(q, "xyz");
        CHECK.due("image(1)", q.image(1), 1);
        CHECK.due("the pad stays when kept", q.told(0), 3);
        CHECK.due("restore(0) not kept", q.restore(0), QuotedLayers.STATE);
        String before = Check.state(q);
        Check.pad(q, "-0").layer(0);
        Check.pad(q, "-3%&~").layer(4);
        q.unchain();
        q.chain(4);
        q.chain(4);
        Check.pad(q, "other").text();
        Check.pad(q, "uv");
        CHECK.due("restore(1)", q.restore(1), 1);
        CHECK.due("the pad is not restored", q.told(0), 2);
        Check.pad(q, "xyz");
        CHECK.due("all else is", Check.state(q), before);
        CHECK.due("restore(1) once more", q.restore(1), 1);
    }

    private static void imagesApart() {
        QuotedLayers q = Check.made("0", "ab", "\"1\\<");
        q.image(0);
        Check.pad(q, "$0&").layer(0);
        q.chain(0);
        Check.pad(q, "cd!").text();
        q.image(1);
        q.restore(0);
        CHECK.due("the mark of the first", q.about(0, 0), '"');
        CHECK.due("the chain of the first", q.told(2), 1);
        CHECK.due("the text of the first", q.told(1), 2);
        // what is changed now must not change an image
        Check.pad(q, "%2").layer(0);
        q.unchain();
        Check.pad(q, "e").text();
        q.restore(1);
        CHECK.due("the mark of the second", q.about(0, 0), '$');
        CHECK.due("the chain of the second", q.told(2), 2);
        CHECK.due("the text of the second", q.told(22), '!');
        q.restore(0);
        CHECK.due("the mark of the first again", q.about(0, 0), '"');
        CHECK.due("the mask of the first again", q.about(0, 2), '\\');
        CHECK.due("the held sign of the first again", q.about(0, 3), '<');
        CHECK.due("the chain of the first again", q.told(2), 1);
        CHECK.due("the text of the first again", q.told(21), 'b');
        q.unchain();
        q.image(0);
        q.restore(1);
        q.restore(0);
        CHECK.due("an image kept anew", q.told(2), 0);
    }
}
