/** Promises 19 to 23: each sentence that names a bound or a refusal, by itself. */
public final class RowsOrdersBoundsTest {
    private static final Check CHECK = new Check("RowsOrdersBoundsTest");
    private static final int NONE = QuotedLayers.NONE, OUTSIDE = QuotedLayers.OUTSIDE, STATE = QuotedLayers.STATE;
    private static final int[] FAR = {-2, -3, -7, -1000, Integer.MIN_VALUE, Integer.MAX_VALUE};
    private static final String TWELVE_MARKS = "'".repeat(12);
    /** Each bars the marks of those ahead of it: only 4 3 2 1 0 is put. */
    private static final String[] ONE_ORDER = {"\"0", "'0\"", "$0\"'", "<0\"'$", "!0\"'$<"};

    public static void main(String[] args) {
        rowsOfEmptyPad();
        rowsOfAnyPad();
        rowsOfOneToThree();
        rowsLeaveOutAsAtFirst();
        rowsInTheirOrder();
        rowsWhat();
        rowsLookAtThePadAlone();
        orderOfNoLayers();
        orderOfOneToFive();
        orderFirstByPlaces();
        orderLeavesOutBarred();
        orderLeavesOutLong();
        orderAllLeftOut();
        orderWhat();
        imageOutside();
        restoreOfNone();
        allButThePad();
        asItWasWhenKept();
        imageKeptAnew();
        toldSizes();
        toldLayers();
        toldSigns();
        toldOutside();
        allItsCalls();
        CHECK.end();
    }

    private static void rowsOfEmptyPad() {
        CHECK.sentence("19: STATE: the PAD is empty");
        QuotedLayers[] any = {new QuotedLayers(), Check.made("01", "y", "-1\\", "'2"), Check.withLayers("-1\\")};
        for (QuotedLayers q : any) {
            for (int i = -3; i <= 3; i++) {
                CHECK.due("rows(" + i + ")", q.rows(i), STATE);
            }
            CHECK.due("rows(least)", q.rows(Integer.MIN_VALUE), STATE);
            CHECK.due("rows(greatest)", q.rows(Integer.MAX_VALUE), STATE);
            q.say('x');
            CHECK.due("rows(-1) of one sign", q.rows(-1) == STATE ? 1 : 0, 0);
            q.wipe();
            CHECK.due("rows(-1) when wiped", q.rows(-1), STATE);
        }
    }

    private static void rowsOfAnyPad() {
        CHECK.sentence("19: a text on the PAD, of 1 to 60 SIGNS");
        QuotedLayers q = Check.withLayers("$2", "-3%&");
        CHECK.due("one sign", Check.rows(q, "x"), "3 11 111 1111");
        CHECK.due("one mark", Check.rows(q, "$"), "3 11 111 1111");
        CHECK.due("one sign that no row reads", Check.rows(q, "&"), "0");
        CHECK.due("two marks, of which nothing comes out", Check.rows(q, "$$"),
            "9 10 11 101 110 111 1011 1101 1110 1111");
        CHECK.due("sixty signs", Check.rows(q, "x".repeat(60)), "3 11 111 1111");
        CHECK.due("sixty signs that are 29 marks", Check.rows(q, "$".repeat(60)),
            "9 10 11 101 110 111 1011 1101 1110 1111");
    }

    private static void rowsOfOneToThree() {
        CHECK.sentence("19: of all rows of 1 to 3 LAYERS");
        QuotedLayers q = Check.withLayers("\"0", "'0", "$0", "<0", "!0");
        CHECK.due("one", Check.rows(q, "\"x\""), "1 10");
        CHECK.due("two", Check.rows(q, "'\"x\"'"), "2 11 101");
        CHECK.due("three", Check.rows(q, "$'\"x\"'$"), "3 12 112 1012");
        CHECK.due("no more than three", Check.rows(q, "<$'\"x\"'$<"), "3 13 123 1123");
        CHECK.due("none", Check.rows(q, "x"), "0");
        q = Check.withLayers("-1\\", "-1\\", "-1\\", "-1\\", "-1\\");
        CHECK.due("all, how many", Check.pad(q, "x").rows(-1), 5 + 25 + 125);
        CHECK.due("a LAYER again and again", q.rows(154), 1444);
    }

    private static void rowsLeaveOutAsAtFirst() {
        CHECK.sentence("19: of 0 to 4, those that are as at first left out");
        CHECK.due("all are", Check.rows(new QuotedLayers(), "x"), "0");
        for (int layer = 0; layer <= 4; layer++) {
            QuotedLayers q = new QuotedLayers();
            Check.pad(q, "-1\\").layer(layer);
            CHECK.due("all but " + layer, Check.rows(q, "x"), "3 1" + layer + " 1" + layer + layer + " 1" + layer
                + layer + layer);
            Check.pad(q, "-0").layer(layer);
            CHECK.due("told as -0 again", Check.rows(q, "x"), "0");
        }
        String[] other = {"-0&", "-0ghijkl", "-1\\", "-3%"};
        for (String told : other) {
            CHECK.due("by " + told, Check.rows(Check.withLayers(told), "x"), "3 10 100 1000");
        }
        CHECK.due("by \"0", Check.rows(Check.withLayers("\"0"), "\"x\""), "1 10");
        CHECK.due("by \"2", Check.rows(Check.withLayers("\"2"), "\"x\""), "1 10");
    }

    private static void rowsInTheirOrder() {
        CHECK.sentence("19: by length, then by LAYERS from the innermost; with 1 ahead");
        QuotedLayers q = Check.withLayers("-1\\", "-0", "-1\\", "-0", "-1\\");
        String want = "39 10 12 14";
        int[] three = {0, 2, 4};
        for (int first : three) {
            for (int second : three) {
                want += " 1" + first + second;
            }
        }
        for (int first : three) {
            for (int second : three) {
                want += " 1" + first + second + "0 1" + first + second + "2 1" + first + second + "4";
            }
        }
        CHECK.due("rows of three LAYERS", Check.rows(q, "x"), want);
        q = Check.withLayers("", "$2", "", "<2");
        CHECK.due("the innermost first", Check.rows(q, "<$x$<"), "2 13 113");
        CHECK.due("the innermost first, turned", Check.rows(q, "$<x<$"), "2 11 131");
    }

    private static void rowsWhat() {
        CHECK.sentence("19: how many (i = -1), the i-th; NONE");
        QuotedLayers q = Check.pad(Check.withLayers("-1\\"), "x");
        CHECK.due("rows(-1)", q.rows(-1), 3);
        CHECK.due("rows(0)", q.rows(0), 10);
        CHECK.due("rows(1)", q.rows(1), 100);
        CHECK.due("rows(2)", q.rows(2), 1000);
        CHECK.due("rows(3)", q.rows(3), NONE);
        CHECK.due("the PAD stays", q.told(0), 1);
        for (int i : FAR) {
            CHECK.due("rows(" + i + ")", q.rows(i), NONE);
        }
        for (int i : Check.wrapped(0)) {
            CHECK.due("rows(" + i + ")", q.rows(i), NONE);
        }
        Check.pad(q, "\\");
        CHECK.due("rows(-1) of none", q.rows(-1), 0);
        CHECK.due("rows(0) of none", q.rows(0), NONE);
        CHECK.due("rows(-2) of none", q.rows(-2), NONE);
    }

    private static void rowsLookAtThePadAlone() {
        CHECK.sentence("19: whatever THE CHAIN and THE TEXT are");
        String[] chains = {"", "0", "11111"};
        for (String chain : chains) {
            CHECK.due("with " + chain, Check.rows(Check.made(chain, "&", "-1\\", "-0&"), "x&"), "3 10 100 1000");
        }
    }

    private static void orderOfNoLayers() {
        CHECK.sentence("20: NONE: or there is none");
        QuotedLayers q = new QuotedLayers();
        for (int i = -3; i <= 5; i++) {
            CHECK.due("order(" + i + ")", q.order(i), NONE);
        }
        q.chain(0);
        CHECK.due("order(-1) of one", q.order(-1), 1);
        q.unchain();
        CHECK.due("order(-1) of none again", q.order(-1), NONE);
        CHECK.due("order(0) of none again", q.order(0), NONE);
    }

    private static void orderOfOneToFive() {
        CHECK.sentence("20: of all orders of THE CHAIN's LAYERS");
        String want = "";
        for (int size = 1; size <= 5; size++) {
            QuotedLayers q = Check.made("01234".substring(0, size), "x", ONE_ORDER);
            want = " " + (size - 1) + want;
            CHECK.due("the last order of " + size, Check.order(q), (1 + 2 * size) + want);
            q = Check.made("43210".substring(5 - size), "x", ONE_ORDER);
            CHECK.due("the first order of " + size, Check.order(q),
                (1 + 2 * size) + " 0 1 2 3 4".substring(0, 2 * size));
        }
        CHECK.due("one in the midst", Check.order(Check.made("20413", "x", ONE_ORDER)), "11 2 4 0 3 1");
    }

    private static void orderFirstByPlaces() {
        CHECK.sentence("20: of several the first by places");
        CHECK.due("all are alike", Check.order(Check.made("43210", "x")), "1 0 1 2 3 4");
        CHECK.due("one LAYER again", Check.order(Check.made("00000", "x", "$2")), "63 0 1 2 3 4");
        // numbers ahead of what masks < and > are shorter: 1 ahead of 0, and 2 anywhere
        QuotedLayers q = Check.made("012", "<<", "-1\\<", "-3%<", "-0");
        CHECK.due("1 ahead of 0", Check.order(q), "6 1 0 2");
        q = Check.made("201", "<<", "-1\\<", "-3%<", "-0");
        CHECK.due("1 ahead of 0, and 2 is at the first place", Check.order(q), "6 0 2 1");
    }

    private static void orderLeavesOutBarred() {
        CHECK.sentence("20: BARRED ones left out");
        QuotedLayers q = Check.made("01", "x<", "-0<", "-3%<");
        CHECK.due("only numbers first", Check.order(q), "4 1 0");
        CHECK.due("as it is it is barred", q.barred(), 0);
        q = Check.made("10", "x<", "-0<", "-3%<");
        CHECK.due("the order as it is", Check.order(q), "4 0 1");
    }

    private static void orderLeavesOutLong() {
        CHECK.sentence("20: LONG ones left out");
        // numbers last are 192 by 3; numbers first are 12 by 3, of which 12 are doubled four times
        QuotedLayers q = Check.made("11110", "\\".repeat(12), "-3%\\", "-1\\");
        CHECK.due("as it is it is too long", q.behind(5, -1), QuotedLayers.LONG);
        CHECK.due("numbers first", Check.order(q), "36 4 0 1 2 3");
        q = Check.made("0001", TWELVE_MARKS, "'2", "-3%'");
        CHECK.due("behind(4, -1)", q.behind(4, -1), 330);
        CHECK.due("numbers first, of which the marks are doubled", Check.order(q), "50 3 0 1 2");
    }

    private static void orderAllLeftOut() {
        CHECK.sentence("20: NONE: all are left out");
        QuotedLayers[] none = {Check.made("01", "<", "-0<", "-0>"), Check.made("00", "x", "$0"),
            Check.made("00000", TWELVE_MARKS, "'2")};
        for (QuotedLayers q : none) {
            for (int i = -3; i <= 5; i++) {
                CHECK.due("order(" + i + ")", q.order(i), NONE);
            }
        }
        QuotedLayers q = none[2];
        q.unchain();
        CHECK.due("without the last", Check.order(q), "222 0 1 2 3");
        q.chain(0);
        CHECK.due("with it again", q.order(0), NONE);
    }

    private static void orderWhat() {
        CHECK.sentence("20: how many signs then (i = -1), the place that comes i-th; NONE");
        QuotedLayers q = Check.made("012", "x", ONE_ORDER);
        CHECK.due("order(-1)", q.order(-1), 7);
        CHECK.due("order(0)", q.order(0), 2);
        CHECK.due("order(1)", q.order(1), 1);
        CHECK.due("order(2)", q.order(2), 0);
        CHECK.due("order(3)", q.order(3), NONE);
        for (int i : FAR) {
            CHECK.due("order(" + i + ")", q.order(i), NONE);
        }
        for (int i : Check.wrapped(0)) {
            CHECK.due("order(" + i + ")", q.order(i), NONE);
        }
        CHECK.due("THE CHAIN stays", q.told(10), 0);
        CHECK.due("it is BARRED still", q.barred(), 1);
    }

    private static void imageOutside() {
        CHECK.sentence("21: an IMAGE (0, 1): 1; OUTSIDE");
        int[] outside = {-1, 2, 3, -2, Integer.MIN_VALUE, Integer.MAX_VALUE};
        QuotedLayers q = new QuotedLayers();
        for (int n : outside) {
            CHECK.due("image(" + n + ")", q.image(n), OUTSIDE);
            CHECK.due("restore(" + n + ")", q.restore(n), OUTSIDE);
        }
        CHECK.due("none is kept by that: 0", q.restore(0), STATE);
        CHECK.due("none is kept by that: 1", q.restore(1), STATE);
        CHECK.due("image(0)", q.image(0), 1);
        CHECK.due("image(1)", q.image(1), 1);
        for (int n : Check.wrapped(1)) {
            CHECK.due("image(" + n + ")", q.image(n), OUTSIDE);
            CHECK.due("restore(" + n + ")", q.restore(n), OUTSIDE);
        }
        for (int n : outside) {
            CHECK.due("restore(" + n + ") when both are kept", q.restore(n), OUTSIDE);
        }
    }

    private static void restoreOfNone() {
        CHECK.sentence("22: STATE: it was not");
        for (int kept = 0; kept <= 1; kept++) {
            QuotedLayers q = Check.made("01", "y", "$2", "-1\\");
            CHECK.due("restore(" + kept + ")", q.restore(kept), STATE);
            CHECK.due("image(" + kept + ")", q.image(kept), 1);
            CHECK.due("restore(" + (1 - kept) + ")", q.restore(1 - kept), STATE);
            CHECK.due("restore(" + kept + ") of it", q.restore(kept), 1);
            CHECK.due("restore(" + (1 - kept) + ") behind that", q.restore(1 - kept), STATE);
        }
    }

    private static void allButThePad() {
        CHECK.sentence("21: all but the PAD is kept");
        QuotedLayers q = Check.pad(Check.made("0", "y", "$2"), "then");
        q.image(0);
        CHECK.due("the PAD stays", q.told(0), 4);
        CHECK.due("restore(0)", q.restore(0), 1);
        CHECK.due("the PAD stays", q.told(0), 4);
        Check.pad(q, "$$");
        q.restore(0);
        CHECK.due("the PAD of now", q.told(0), 2);
        CHECK.due("its signs", q.read(-3), 0);
        q.wipe();
        q.restore(0);
        CHECK.due("an empty PAD of now", q.told(0), 0);
        Check.pad(q, "z".repeat(60));
        q.restore(0);
        CHECK.due("a full PAD of now", q.say('z'), QuotedLayers.FULL);
    }

    private static void asItWasWhenKept() {
        CHECK.sentence("22: it is as it was when it was kept: 1");
        String[][] told = {{}, {"\"1\\ghijkl", "-3%<", "'2", "$0&!", "-0"}, {"-0&", "-0", "-3%", "~1!", "<2"}};
        String[] chains = {"", "01234", "4"};
        String[] texts = {"x", "abcdefghijkl", "!\""};
        for (int then = 0; then < 3; then++) {
            for (int now = 0; now < 3; now++) {
                QuotedLayers q = Check.made(chains[then], texts[then], told[then]);
                String before = Check.state(q);
                CHECK.due("image(1)", q.image(1), 1);
                change(q, chains[now], texts[now], told[now]);
                CHECK.due("restore(1)", q.restore(1), 1);
                CHECK.due(then + " behind " + now, Check.state(q), before);
                change(q, chains[now], texts[now], told[now]);
                CHECK.due("restore(1) again", q.restore(1), 1);
                CHECK.due(then + " behind " + now + " again", Check.state(q), before);
            }
        }
    }

    private static void change(QuotedLayers q, String chain, String text, String... told) {
        for (int layer = 0; layer < 5; layer++) {
            Check.pad(q, layer < told.length ? told[layer] : "-0").layer(layer);
        }
        for (int i = 0; i < 5; i++) {
            q.unchain();
        }
        for (int i = 0; i < chain.length(); i++) {
            q.chain(chain.charAt(i) - '0');
        }
        Check.pad(q, text).text();
    }

    private static void imageKeptAnew() {
        CHECK.sentence("22: each IMAGE by itself, and kept anew");
        QuotedLayers q = Check.made("0", "first", "$2");
        q.image(0);
        change(q, "11", "second", "-0", "-1\\");
        q.image(1);
        change(q, "222", "third", "-0", "-0", "-3%");
        q.image(0);
        CHECK.due("restore(1)", q.restore(1), 1);
        CHECK.due("the second: its chain", q.told(2), 2);
        CHECK.due("the second: its text", q.told(20), 's');
        CHECK.due("the second: its layer", q.about(1, 2), '\\');
        CHECK.due("the second: no other layer", q.about(2, 2), NONE);
        CHECK.due("restore(0)", q.restore(0), 1);
        CHECK.due("the third: its chain", q.told(2), 3);
        CHECK.due("the third: its text", q.told(20), 't');
        CHECK.due("the third: its layer", q.about(2, 2), '%');
        CHECK.due("the third: no other layer", q.about(1, 2), NONE);
        CHECK.due("nothing of the first", q.about(0, 0), NONE);
    }

    private static void toldSizes() {
        CHECK.sentence("23: 0 signs on the PAD, 1 signs of THE TEXT, 2 LAYERS of THE CHAIN");
        for (int size = 0; size <= 5; size++) {
            QuotedLayers q = Check.made("43210".substring(0, size), "t".repeat(size + 7));
            Check.pad(q, "p".repeat(size * 12));
            CHECK.due("told(0)", q.told(0), size * 12);
            CHECK.due("told(1)", q.told(1), size + 7);
            CHECK.due("told(2)", q.told(2), size);
        }
    }

    private static void toldLayers() {
        CHECK.sentence("23: 10 to 14 its LAYERS (NONE: not so many)");
        String chain = "42031";
        for (int size = 0; size <= 5; size++) {
            QuotedLayers q = Check.made(chain.substring(0, size), "y");
            for (int i = 0; i < 5; i++) {
                CHECK.due("told(1" + i + ") of " + size, q.told(10 + i), i < size ? chain.charAt(i) - '0' : NONE);
            }
            CHECK.due("told(9)", q.told(9), OUTSIDE);
            CHECK.due("told(15)", q.told(15), OUTSIDE);
        }
    }

    private static void toldSigns() {
        CHECK.sentence("23: 20 to 31 signs of THE TEXT (NONE: not so many)");
        String text = "!abcdefghij~";
        for (int size = 1; size <= 12; size++) {
            QuotedLayers q = Check.made("", text.substring(0, size));
            for (int i = 0; i < 12; i++) {
                CHECK.due("told(" + (20 + i) + ") of " + size, q.told(20 + i), i < size ? text.charAt(i) : NONE);
            }
            CHECK.due("told(19)", q.told(19), OUTSIDE);
            CHECK.due("told(32)", q.told(32), OUTSIDE);
        }
    }

    private static void toldOutside() {
        CHECK.sentence("23: OUTSIDE");
        QuotedLayers q = Check.pad(Check.made("01234", "abcdefghijkl"), "xyz");
        for (int what = -40; what <= 300; what++) {
            boolean is = what >= 0 && what <= 2 || what >= 10 && what <= 14 || what >= 20 && what <= 31;
            CHECK.due("told(" + what + ") is OUTSIDE", q.told(what) == OUTSIDE ? 1 : 0, is ? 0 : 1);
        }
        int[] numbers = {0, 1, 2, 10, 14, 20, 31};
        for (int what : numbers) {
            for (int wrapped : Check.wrapped(what)) {
                CHECK.due("told(" + wrapped + ")", Check.made("01234", "y").told(wrapped), OUTSIDE);
            }
        }
        CHECK.due("told(least)", q.told(Integer.MIN_VALUE), OUTSIDE);
        CHECK.due("told(greatest)", q.told(Integer.MAX_VALUE), OUTSIDE);
    }

    private static void allItsCalls() {
        CHECK.sentence("an object is used for at most 512 calls");
        QuotedLayers q = Check.made("01", "ab", "\"1\\", "'2");
        int calls = 0;
        while (calls < 490) {
            CHECK.due("call " + calls, q.say('x'), 1);
            CHECK.due("call " + calls, q.wipe(), 1);
            CHECK.due("call " + calls, q.image(calls % 2), 1);
            CHECK.due("call " + calls, q.restore(calls % 2), 1);
            CHECK.due("call " + calls, q.behind(2, -1), 6);
            CHECK.due("call " + calls, q.order(0), 0);
            CHECK.due("call " + calls, q.twice(0), 1);
            calls += 7;
        }
    }
}
