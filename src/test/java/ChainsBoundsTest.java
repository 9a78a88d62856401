/** Promises 7 to 14: each sentence that names a bound or a refusal, by itself. */
public final class ChainsBoundsTest {
    private static final Check CHECK = new Check("ChainsBoundsTest");
    private static final int NONE = QuotedLayers.NONE, UNKNOWN = QuotedLayers.UNKNOWN, OUTSIDE = QuotedLayers.OUTSIDE;
    private static final int FULL = QuotedLayers.FULL, NO = QuotedLayers.NO, LONG = QuotedLayers.LONG;
    private static final String TWELVE_MARKS = "'".repeat(12);
    /** 23, 41, 77, 144, of which 128 become numbers: 400. */
    private static final String CHAIN_OF_400 = "01123", TEXT_OF_400 = "\\".repeat(9) + "yyy";
    private static final String[] LAYERS_OF_400 = {"\"1'\\", "-1\\'", "\"1\\", "-3%\\"};
    /** 21, 41, 81, of which 80 become numbers: 241, and once more: 401. */
    private static final String CHAIN_OF_401 = "01022", TEXT_OF_401 = "\\".repeat(10) + "y";
    private static final String[] LAYERS_OF_401 = {"-1\\'", "-1\\", "-3%\\"};
    private static final int[] FAR = {-2, -3, -7, -1000, Integer.MIN_VALUE, Integer.MAX_VALUE};

    public static void main(String[] args) {
        chainIsFullWithFive();
        chainOfUnknown();
        layerMayComeAgain();
        unchainToNone();
        textOfOneToTwelve();
        textRefused();
        nothingIsDone();
        putsMarks();
        putsMasked();
        putsTwoDigits();
        behindNone();
        behindPlaces();
        behindOutside();
        behindLong();
        behindLongFromThere();
        behindBarred();
        behindFollowsItsLayers();
        barredPlaces();
        barredNowhere();
        barredOrLong();
        growsCodes();
        growsNone();
        growsByNothingOrLess();
        safeRow();
        safeWhenBarred();
        dearestOfEquals();
        dearestNone();
        CHECK.end();
    }

    private static void chainIsFullWithFive() {
        CHECK.sentence("7: LAYERS, 5 at most; how many; FULL");
        QuotedLayers q = new QuotedLayers();
        for (int i = 1; i <= 5; i++) {
            CHECK.due("chain no. " + i, q.chain(5 - i), i);
        }
        CHECK.due("chain no. 6", q.chain(0), FULL);
        CHECK.due("chain(4) when full", q.chain(4), FULL);
        CHECK.due("told(2)", q.told(2), 5);
        for (int i = 0; i < 5; i++) {
            CHECK.due("told(1" + i + ")", q.told(10 + i), 4 - i);
        }
        CHECK.due("unchain()", q.unchain(), 4);
        CHECK.due("chain into the gap", q.chain(3), 5);
        CHECK.due("told(14)", q.told(14), 3);
    }

    private static void chainOfUnknown() {
        CHECK.sentence("7: UNKNOWN, ahead of FULL");
        QuotedLayers q = new QuotedLayers();
        int[] unknown = {-1, 5, 6, 10, Integer.MIN_VALUE, Integer.MAX_VALUE};
        for (int size = 0; size <= 5; size++) {
            for (int layer : unknown) {
                CHECK.due("chain(" + layer + ") of " + size, q.chain(layer), UNKNOWN);
            }
            for (int layer : Check.wrapped(2)) {
                CHECK.due("chain(" + layer + ") of " + size, q.chain(layer), UNKNOWN);
            }
            CHECK.due("told(2)", q.told(2), size);
            q.chain(0);
        }
    }

    private static void layerMayComeAgain() {
        CHECK.sentence("7: a LAYER may come again");
        QuotedLayers q = Check.withLayers("$0");
        for (int i = 1; i <= 5; i++) {
            CHECK.due("chain(1) no. " + i, q.chain(1), i);
        }
        q = Check.made("11111", "x", "$0", "!2");
        CHECK.due("behind 5", q.behind(5, -1), 63);
    }

    private static void unchainToNone() {
        CHECK.sentence("8: the last LAYER goes: how many are left; NO: there is none");
        QuotedLayers q = Check.made("43210", "x");
        for (int left = 4; left >= 0; left--) {
            CHECK.due("unchain()", q.unchain(), left);
            CHECK.due("the last that is left", q.told(9 + left), left == 0 ? OUTSIDE : 5 - left);
            CHECK.due("no more", q.told(10 + left), NONE);
        }
        CHECK.due("unchain() of none", q.unchain(), NO);
        CHECK.due("unchain() of none again", q.unchain(), NO);
        CHECK.due("told(2)", q.told(2), 0);
        CHECK.due("chain(2)", q.chain(2), 1);
    }

    private static void textOfOneToTwelve() {
        CHECK.sentence("9: THE TEXT: 1 to 12 SIGNS; how many; the PAD is empty then");
        String signs = "abcdefghijkl";
        for (int size = 1; size <= 12; size++) {
            QuotedLayers q = Check.pad(new QuotedLayers(), signs.substring(0, size));
            CHECK.due("text()", q.text(), size);
            CHECK.due("told(0)", q.told(0), 0);
            CHECK.due("told(1)", q.told(1), size);
            CHECK.due("its last sign", q.told(19 + size), signs.charAt(size - 1));
            CHECK.due("no more", q.told(20 + size), size == 12 ? OUTSIDE : NONE);
            CHECK.due("text() of what is empty", q.text(), NO);
        }
    }

    private static void textRefused() {
        CHECK.sentence("9: NO: none, or more than 12; the PAD stays when the call is refused");
        QuotedLayers q = Check.pad(new QuotedLayers(), "old");
        q.text();
        int[] sizes = {0, 13, 14, 59, 60};
        for (int size : sizes) {
            Check.pad(q, "n".repeat(size));
            CHECK.due("text() of " + size, q.text(), NO);
            CHECK.due("told(0)", q.told(0), size);
            CHECK.due("told(1)", q.told(1), 3);
            CHECK.due("told(20)", q.told(20), 'o');
            CHECK.due("told(23)", q.told(23), NONE);
        }
    }

    private static void nothingIsDone() {
        CHECK.sentence("terms 1: all are -0 at first: nothing is done");
        String signs = "\"'\\%-09af~!x";
        QuotedLayers q = Check.made("01234", signs);
        for (int k = 0; k <= 5; k++) {
            CHECK.due("behind " + k, Check.behind(q, k), signs);
        }
        CHECK.due("barred()", q.barred(), NONE);
        CHECK.due("read", Check.read(q, signs), signs);
        CHECK.due("safe(-1)", q.safe(-1), 94);
    }

    private static String put(String layer, String text) {
        return Check.behind(Check.made("0", text, layer), 1);
    }

    private static void putsMarks() {
        CHECK.sentence("terms 1: the MARK ahead and behind (none, if -)");
        CHECK.due("way 0, none", put("-0", "-x"), "-x");
        CHECK.due("way 1, none", put("-1\\", "-x"), "-x");
        CHECK.due("way 3, none", put("-3%", "-x"), "-x");
        CHECK.due("way 0", put("$0", "-x"), "$-x$");
        CHECK.due("way 1", put("$1\\", "-x"), "$-x$");
        CHECK.due("way 2", put("$2", "-x"), "$-x$");
        CHECK.due("way 3", put("$3%", "-x"), "$-x$");
        CHECK.due("letters and digits stay", put("$3%", "0129abcdefgz"), "$0129abcdefgz$");
    }

    private static void putsMasked() {
        CHECK.sentence("terms 1: a sign to be masked: the MARK, the MASK, a HELD one");
        CHECK.due("way 0, the mark", put("$0<>", "x$"), "-5");
        CHECK.due("way 0, the first held", put("$0<>", "<x"), "-5");
        CHECK.due("way 0, the last held", put("-0ghijkl", "l"), "-5");
        CHECK.due("way 0, none", put("$0<>", "-=?"), "$-=?$");
        CHECK.due("way 1", put("$1\\<>", "$\\<>="), "$\\$\\\\\\<\\>=$");
        CHECK.due("way 1, six held", put("-1\\ghijkl", "gmhniojpkqlr"), "\\gm\\hn\\io\\jp\\kq\\lr");
        CHECK.due("way 2", put("$2", "$x$$"), "$$$x$$$$$");
        CHECK.due("way 3", put("$3%<>", "$%<>="), "$%24%25%3c%3e=$");
        CHECK.due("way 3, six held", put("-3%ghijkl", "gmhniojpkqlr"), "%67m%68n%69o%6ap%6bq%6cr");
    }

    private static void putsTwoDigits() {
        CHECK.sentence("terms 1: its code as a number to sixteen (0 to 9, a to f)");
        for (char sign = 33; sign <= 126; sign++) {
            if (Check.isDigitToSixteen(sign) || sign == '-') {
                continue;
            }
            String digits = Integer.toString(sign, 16);
            char mask = sign == '%' ? '&' : '%';
            CHECK.due("held " + sign, put("-3" + mask + sign, "" + sign), mask + digits);
            CHECK.due("as the mask " + sign, put("-3" + sign, "" + sign), sign + digits);
            CHECK.due("as the mark " + sign, put(sign + "3" + mask, "" + sign), sign + "" + mask + digits + sign);
        }
    }

    private static void behindNone() {
        CHECK.sentence("10: BEHIND 0 LAYERS: THE TEXT");
        QuotedLayers q = Check.made("0", "a$b", "$0");
        CHECK.due("behind 0", Check.behind(q, 0), "a$b");
        CHECK.due("behind 1", q.behind(1, -1), NO);
        q = new QuotedLayers();
        CHECK.due("of a new object", Check.behind(q, 0), "x");
    }

    private static void behindPlaces() {
        CHECK.sentence("10: how many signs (i = -1), the i-th; NONE (i below -1, too)");
        QuotedLayers q = Check.made("01", "ab", "<1\\", ">2");
        CHECK.due("behind(2, -1)", q.behind(2, -1), 6);
        CHECK.due("behind(2, 0)", q.behind(2, 0), '>');
        CHECK.due("behind(2, 1)", q.behind(2, 1), '<');
        CHECK.due("behind(2, 5)", q.behind(2, 5), '>');
        CHECK.due("behind(2, 6)", q.behind(2, 6), NONE);
        CHECK.due("behind(1, 3)", q.behind(1, 3), '<');
        CHECK.due("behind(1, 4)", q.behind(1, 4), NONE);
        CHECK.due("behind(0, 1)", q.behind(0, 1), 'b');
        CHECK.due("behind(0, 2)", q.behind(0, 2), NONE);
        for (int k = 0; k <= 2; k++) {
            for (int i : FAR) {
                CHECK.due("behind(" + k + ", " + i + ")", q.behind(k, i), NONE);
            }
            for (int i : Check.wrapped(0)) {
                CHECK.due("behind(" + k + ", " + i + ")", q.behind(k, i), NONE);
            }
        }
    }

    private static void behindOutside() {
        CHECK.sentence("10: OUTSIDE: k; ahead of LONG and NO");
        for (int size = 0; size <= 5; size++) {
            QuotedLayers q = Check.made("00000".substring(0, size), "$", "$0");
            CHECK.due("behind(" + size + ", -1)", q.behind(size, -1), size == 0 ? 1 : NO);
            CHECK.due("one more", q.behind(size + 1, -1), OUTSIDE);
            CHECK.due("one more, the first sign", q.behind(size + 1, 0), OUTSIDE);
            CHECK.due("one more, i below", q.behind(size + 1, -2), OUTSIDE);
            CHECK.due("behind(-1, -1)", q.behind(-1, -1), OUTSIDE);
            CHECK.due("behind(greatest, 0)", q.behind(Integer.MAX_VALUE, 0), OUTSIDE);
            CHECK.due("behind(least, 0)", q.behind(Integer.MIN_VALUE, 0), OUTSIDE);
            for (int k : Check.wrapped(0)) {
                CHECK.due("behind(" + k + ", 0)", q.behind(k, 0), OUTSIDE);
            }
        }
        CHECK.due("of a long one", Check.made("00000", TWELVE_MARKS, "'2").behind(6, -1), OUTSIDE);
    }

    private static void behindLong() {
        CHECK.sentence("10: it is told up to 400 SIGNS; LONG, if it would be more");
        QuotedLayers q = Check.made(CHAIN_OF_400, TEXT_OF_400, LAYERS_OF_400);
        CHECK.due("just 400", q.behind(5, -1), 400);
        CHECK.due("the first of 400", q.behind(5, 0), '"');
        CHECK.due("the last of 400", q.behind(5, 399), '"');
        CHECK.due("no more", q.behind(5, 400), NONE);
        CHECK.due("i below", q.behind(5, -2), NONE);
        q = Check.made(CHAIN_OF_401, TEXT_OF_401, LAYERS_OF_401);
        CHECK.due("just 401", q.behind(5, -1), LONG);
        CHECK.due("its first sign", q.behind(5, 0), LONG);
        CHECK.due("its last sign", q.behind(5, 400), LONG);
        CHECK.due("i below", q.behind(5, -2), LONG);
        CHECK.due("i least", q.behind(5, Integer.MIN_VALUE), LONG);
        CHECK.due("i greatest", q.behind(5, Integer.MAX_VALUE), LONG);
    }

    private static void behindLongFromThere() {
        CHECK.sentence("10: LONG is one thing, what stands ahead of it another");
        QuotedLayers q = Check.made("00000", TWELVE_MARKS, "'2");
        int[] sizes = {12, 26, 54, 110, 222, LONG};
        for (int k = 0; k <= 5; k++) {
            CHECK.due("behind(" + k + ", -1)", q.behind(k, -1), sizes[k]);
        }
        CHECK.due("the last sign of four", q.behind(4, 221), '\'');
        CHECK.due("no more", q.behind(4, 222), NONE);
    }

    private static void behindBarred() {
        CHECK.sentence("10: NO: it is BARRED at the first LAYER that can not put it");
        QuotedLayers q = Check.made("012", "x&", "'2", "$0&", "-0");
        CHECK.due("behind(1, -1)", q.behind(1, -1), 4);
        CHECK.due("behind(2, -1)", q.behind(2, -1), NO);
        CHECK.due("behind(3, -1)", q.behind(3, -1), NO);
        CHECK.due("behind(3, 0)", q.behind(3, 0), NO);
        CHECK.due("behind(3, -2)", q.behind(3, -2), NO);
        CHECK.due("behind(3, greatest)", q.behind(3, Integer.MAX_VALUE), NO);
        CHECK.due("behind(4, -1)", q.behind(4, -1), OUTSIDE);
    }

    private static void behindFollowsItsLayers() {
        CHECK.sentence("terms 2: a CHAIN is one of LAYERS, whatever they are told to be behind that");
        QuotedLayers q = Check.made("00", "a$", "$2");
        CHECK.due("behind 2", Check.behind(q, 2), "$$$a$$$$$$$");
        Check.pad(q, "-3%$").layer(0);
        CHECK.due("behind 2, told anew", Check.behind(q, 2), "a%2524");
        CHECK.due("told(11)", q.told(11), 0);
    }

    private static void barredPlaces() {
        CHECK.sentence("11: at which place of THE CHAIN THE TEXT is BARRED");
        String[] chains = {"0", "10", "110", "1110", "11110", "00000", "10000", "11010"};
        int[] places = {0, 1, 2, 3, 4, 0, 1, 2};
        for (int i = 0; i < chains.length; i++) {
            QuotedLayers q = Check.made(chains[i], "&", "-0&", "-0!");
            CHECK.due("barred() by " + chains[i], q.barred(), places[i]);
        }
        CHECK.due("by marks put ahead", Check.made("10", "x", "-0$", "$2").barred(), 1);
        CHECK.due("by digits of a number never", Check.made("10", "<", "-0<", "-3%<").barred(), NONE);
        CHECK.due("by the mask of a number", Check.made("10", "<", "-0%", "-3%<").barred(), 1);
    }

    private static void barredNowhere() {
        CHECK.sentence("11: NONE");
        CHECK.due("an empty chain", new QuotedLayers().barred(), NONE);
        CHECK.due("a chain that does nothing", Check.made("00000", "&").barred(), NONE);
        CHECK.due("ways that mask", Check.made("012", "$&", "$1&", "$2", "$3&").barred(), NONE);
        QuotedLayers q = Check.made("0", "&", "-0&");
        CHECK.due("barred at 0", q.barred(), 0);
        q.unchain();
        CHECK.due("unchained", q.barred(), NONE);
    }

    private static void barredOrLong() {
        CHECK.sentence("11: LONG: it would be too long ahead of that");
        QuotedLayers q = Check.made("00000", TWELVE_MARKS, "'2");
        CHECK.due("too long at the last place", q.barred(), LONG);
        q.unchain();
        CHECK.due("222 signs", q.barred(), NONE);
        CHECK.due("222 signs, then barred", Check.made("00001", TWELVE_MARKS, "'2", "-0'").barred(), 4);
        CHECK.due("222 signs, then two marks", Check.made("00001", TWELVE_MARKS, "'2", "$0").barred(), NONE);
        // 110, and all of them as numbers: no four layers make more of twelve signs
        q = Check.made("00012", TWELVE_MARKS, "'2", "\"3%'", "$0%");
        CHECK.due("behind(4, -1)", q.behind(4, -1), 332);
        CHECK.due("332 signs, then barred", q.barred(), 4);
        Check.pad(q, "$0").layer(2);
        CHECK.due("332 signs, then two marks", q.barred(), NONE);
        CHECK.due("behind(5, -1)", q.behind(5, -1), 334);
        CHECK.due("just 400", Check.made(CHAIN_OF_400, TEXT_OF_400, LAYERS_OF_400).barred(), NONE);
        CHECK.due("just 401", Check.made(CHAIN_OF_401, TEXT_OF_401, LAYERS_OF_401).barred(), LONG);
    }

    private static void growsCodes() {
        CHECK.sentence("12: GROWS; OUTSIDE: codes 33 to 126");
        QuotedLayers q = Check.made("0", "y", "~1!");
        for (int sign = -3; sign < 300; sign++) {
            int want = sign == '~' || sign == '!' ? 2 : 1;
            CHECK.due("grows(" + sign + ")", q.grows(sign), sign >= 33 && sign <= 126 ? want : OUTSIDE);
        }
        for (int sign : Check.wrapped('~')) {
            CHECK.due("grows(" + sign + ")", q.grows(sign), OUTSIDE);
        }
        CHECK.due("grows(least)", q.grows(Integer.MIN_VALUE), OUTSIDE);
        CHECK.due("grows(greatest)", q.grows(Integer.MAX_VALUE), OUTSIDE);
        q = Check.made("0", "y", "-0x");
        CHECK.due("OUTSIDE ahead of NONE", q.grows(32), OUTSIDE);
        CHECK.due("OUTSIDE ahead of NONE", q.grows(127), OUTSIDE);
    }

    private static void growsNone() {
        CHECK.sentence("12: NONE, if it is BARRED, or x is");
        QuotedLayers q = Check.made("0", "y", "$0&");
        CHECK.due("the mark", q.grows('$'), NONE);
        CHECK.due("the held one", q.grows('&'), NONE);
        CHECK.due("another", q.grows('y'), 1);
        q = Check.made("0", "y", "-0x");
        CHECK.due("x", q.grows('x'), NONE);
        CHECK.due("when x is", q.grows('y'), NONE);
        q = Check.made("0", "y", "x0");
        CHECK.due("when x is the mark", q.grows('!'), NONE);
        q = Check.made("00", "y", "$0&");
        CHECK.due("when all are, by the marks put", q.grows('y'), NONE);
        CHECK.due("x, too", q.grows('x'), NONE);
        q = Check.made("10", "y", "-0%", "-3%x&");
        CHECK.due("x is at the outer layer", q.grows('y'), NONE);
        q = Check.made("10", "y", "-0%", "-3%&");
        CHECK.due("& is at the outer layer", q.grows('&'), NONE);
        CHECK.due("y is not", q.grows('y'), 1);
    }

    private static void growsByNothingOrLess() {
        CHECK.sentence("12: what a text of that sign alone has BEHIND all, less what a text of x has, and 1");
        QuotedLayers q = new QuotedLayers();
        CHECK.due("an empty chain, x", q.grows('x'), 1);
        CHECK.due("an empty chain, !", q.grows('!'), 1);
        q = Check.made("00000", "y", "'2");
        CHECK.due("32 marks less 1", q.grows('\''), 32);
        CHECK.due("marks do not count", q.grows('y'), 1);
        q = Check.made("00000", "y", "-1x");
        CHECK.due("x is 32", q.grows('x'), 1);
        CHECK.due("y is 1", q.grows('y'), 1 - 32 + 1);
        q = Check.made("0", "y", "-3%");
        CHECK.due("a number", q.grows('%'), 3);
    }

    private static void safeRow() {
        CHECK.sentence("13: SAFE signs: how many (i = -1), the i-th by codes; NONE (i below -1, too)");
        QuotedLayers q = Check.made("0", "y", "!0~");
        CHECK.due("safe(-1)", q.safe(-1), 92);
        for (int i = 0; i < 92; i++) {
            CHECK.due("safe(" + i + ")", q.safe(i), 34 + i);
        }
        CHECK.due("safe(92)", q.safe(92), NONE);
        CHECK.due("safe(93)", q.safe(93), NONE);
        for (int i : FAR) {
            CHECK.due("safe(" + i + ")", q.safe(i), NONE);
        }
        for (int i : Check.wrapped(3)) {
            CHECK.due("safe(" + i + ")", q.safe(i), NONE);
        }
        q = new QuotedLayers();
        CHECK.due("all, how many", q.safe(-1), 94);
        CHECK.due("all, the first", q.safe(0), 33);
        CHECK.due("all, the last", q.safe(93), 126);
        CHECK.due("all, no more", q.safe(94), NONE);
    }

    private static void safeWhenBarred() {
        CHECK.sentence("13: those that GROW by nothing (1): none, if x is BARRED");
        QuotedLayers q = Check.made("0", "y", "-0x");
        CHECK.due("safe(-1)", q.safe(-1), 0);
        CHECK.due("safe(0)", q.safe(0), NONE);
        CHECK.due("safe(-2)", q.safe(-2), NONE);
        q = Check.made("0", "y", "-3%x");
        CHECK.due("those as long as x", q.safe(-1), 2);
        CHECK.due("the mask", q.safe(0), '%');
        CHECK.due("x", q.safe(1), 'x');
        CHECK.due("no more", q.safe(2), NONE);
    }

    private static void dearestOfEquals() {
        CHECK.sentence("14: the sign that GROWS most, the least code");
        CHECK.due("an empty chain", new QuotedLayers().dearest(), 33);
        CHECK.due("the least code", Check.made("0", "y", "!2").dearest(), 33);
        CHECK.due("the greatest code", Check.made("0", "y", "~2").dearest(), 126);
        CHECK.due("two of them", Check.made("0", "y", "~1}").dearest(), '}');
        CHECK.due("a lesser code that grows less", Check.made("01", "y", "-1!~", "-3~").dearest(), '~');
        CHECK.due("x", Check.made("0", "y", "~3zx").dearest(), 'x');
        CHECK.due("the first are BARRED", Check.made("0", "y", "-0!\"#$%&").dearest(), '\'');
    }

    private static void dearestNone() {
        CHECK.sentence("14: NONE: x is BARRED");
        CHECK.due("held", Check.made("0", "y", "-0x").dearest(), NONE);
        CHECK.due("the mark", Check.made("0", "y", "x0").dearest(), NONE);
        CHECK.due("all are", Check.made("00", "y", "$0").dearest(), NONE);
        CHECK.due("THE TEXT is, x is not", Check.made("0", "$", "$0").dearest(), 33);
    }
}
