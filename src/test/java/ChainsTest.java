/** Promises 7 to 14, with ordinary chains and texts. */
public final class ChainsTest {
    private static final Check CHECK = new Check("ChainsTest");
    private static final String TWELVE_BACKSLASHES = "\\\\\\\\\\\\\\\\\\\\\\\\";

    public static void main(String[] args) {
        chain();
        unchain();
        text();
        behind();
        behindLong();
        barred();
        grows();
        safe();
        dearest();
        CHECK.end();
    }

    private static void chain() {
        QuotedLayers q = new QuotedLayers();
        CHECK.due("chain(5)", q.chain(5), QuotedLayers.UNKNOWN);
        CHECK.due("chain(-1)", q.chain(-1), QuotedLayers.UNKNOWN);
        CHECK.due("chain(4)", q.chain(4), 1);
        CHECK.due("chain(0)", q.chain(0), 2);
        CHECK.due("chain(4) again", q.chain(4), 3);
        CHECK.due("chain(4) a third time", q.chain(4), 4);
        CHECK.due("chain(2)", q.chain(2), 5);
        CHECK.due("chain(2) when full", q.chain(2), QuotedLayers.FULL);
        CHECK.due("chain(5) when full", q.chain(5), QuotedLayers.UNKNOWN);
        int[] want = {4, 0, 4, 4, 2};
        for (int i = 0; i < 5; i++) {
            CHECK.due("told(" + (10 + i) + ")", q.told(10 + i), want[i]);
        }
    }

    private static void unchain() {
        QuotedLayers q = new QuotedLayers();
        CHECK.due("unchain of nothing", q.unchain(), QuotedLayers.NO);
        q.chain(3);
        q.chain(1);
        CHECK.due("unchain", q.unchain(), 1);
        CHECK.due("the first stays", q.told(10), 3);
        CHECK.due("the last went", q.told(11), QuotedLayers.NONE);
        CHECK.due("unchain the first", q.unchain(), 0);
        CHECK.due("unchain once more", q.unchain(), QuotedLayers.NO);
        CHECK.due("chain again", q.chain(2), 1);
        CHECK.due("it is the first", q.told(10), 2);
    }

    private static void text() {
        QuotedLayers q = new QuotedLayers();
        CHECK.due("text of an empty pad", q.text(), QuotedLayers.NO);
        CHECK.due("x stays", q.told(20), 'x');
        Check.pad(q, "123456789abcd");
        CHECK.due("text of thirteen", q.text(), QuotedLayers.NO);
        CHECK.due("the pad stays", q.told(0), 13);
        CHECK.due("x stays", q.told(1), 1);
        Check.pad(q, "123456789abc");
        CHECK.due("text of twelve", q.text(), 12);
        CHECK.due("the pad is empty", q.told(0), 0);
        CHECK.due("the twelfth sign", q.told(31), 'c');
        Check.pad(q, "!");
        CHECK.due("text of one", q.text(), 1);
        CHECK.due("it is that sign", q.told(20), '!');
        CHECK.due("no second one", q.told(21), QuotedLayers.NONE);
    }

    private static void behind() {
        QuotedLayers q = Check.made("01234", "\"&<$'x%", "\"1\\<!", "-1&~", "'3%;&", "$2", "-0");
        CHECK.due("behind 0", Check.behind(q, 0), "\"&<$'x%");
        CHECK.due("behind 1", Check.behind(q, 1), "\"\\\"&\\<$'x%\"");
        CHECK.due("behind 2", Check.behind(q, 2), "\"\\\"&&\\<$'x%\"");
        CHECK.due("behind 3", Check.behind(q, 3), "'\"\\\"%26%26\\<$%27x%25\"'");
        CHECK.due("behind 4", Check.behind(q, 4), "$'\"\\\"%26%26\\<$$%27x%25\"'$");
        CHECK.due("behind 5", Check.behind(q, 5), "$'\"\\\"%26%26\\<$$%27x%25\"'$");
        CHECK.due("a mask is masked by way 1", Check.behind(Check.made("0", "\\", "-1\\"), 1), "\\\\");
        CHECK.due("held at both ends of the codes",
            Check.behind(Check.made("0", "!~", "-3%!~"), 1), "%21%7e");
        CHECK.due("without a mark - is as it is", Check.behind(Check.made("0", "-x", "-1\\x"), 1), "-\\x");
        CHECK.due("way 0 with marks", Check.behind(Check.made("0", "xy", "$0&"), 1), "$xy$");
        CHECK.due("bars its mark", Check.behind(Check.made("0", "x$", "$0&"), 1), "-5");
        CHECK.due("bars what it holds", Check.behind(Check.made("0", "x&", "$0&"), 1), "-5");
        CHECK.due("way 2 twice", Check.behind(Check.made("00", "'", "'2"), 2), "''''''''''");
    }

    private static void behindLong() {
        QuotedLayers q = Check.made("00001", TWELVE_BACKSLASHES, "-1\\", "$2");
        CHECK.due("192 and two marks", q.behind(5, -1), 194);
        q = Check.made("00000", TWELVE_BACKSLASHES, "-1\\");
        CHECK.due("384 signs", q.behind(5, -1), 384);
        q = Check.made("00001", TWELVE_BACKSLASHES, "-1\\", "\"3%\\");
        CHECK.due("192 numbered and marked", q.behind(5, -1), QuotedLayers.LONG);
        CHECK.due("the i-th of it", q.behind(5, 0), QuotedLayers.LONG);
        CHECK.due("i below -1 of it", q.behind(5, -2), QuotedLayers.LONG);
        CHECK.due("192 are told", q.behind(4, -1), 192);
        q = Check.made("00000", "''''''''''yy", "'2");
        CHECK.due("10 marks by way 2, 2 signs", q.behind(5, -1), 384);
        q = Check.made("00000", "'''''''''''", "'2");
        CHECK.due("11 marks by way 2", q.behind(5, -1), QuotedLayers.LONG);
    }

    private static void barred() {
        CHECK.due("an empty chain bars nothing", new QuotedLayers().barred(), QuotedLayers.NONE);
        QuotedLayers q = Check.made("0102", "x\"", "\"1\\", "-1&", "$0&");
        CHECK.due("nothing is barred", q.barred(), QuotedLayers.NONE);
        q = Check.made("0102", "&x", "\"1\\", "-1&", "$0&");
        CHECK.due("barred at the last", q.barred(), 3);
        q = Check.made("212", "x$", "\"1\\", "-1&", "$0&");
        CHECK.due("barred at the first", q.barred(), 0);
        q = Check.made("11112", "&x", "\"1\\", "-1&", "$0&");
        CHECK.due("barred at 4", q.barred(), 4);
        // a layer's marks bar the next one of the same kind
        q = Check.made("22", "x", "\"1\\", "-1&", "$0&");
        CHECK.due("barred by its own marks", q.barred(), 1);
        q = Check.made("00000", "''''''''''''", "'2");
        CHECK.due("too long, never barred", q.barred(), QuotedLayers.LONG);
        q = Check.made("00001", "''''''''''''", "'2", "$0'");
        CHECK.due("barred when long, but told", q.barred(), 4);
        CHECK.due("behind, barred", q.behind(5, -1), QuotedLayers.NO);
        q = Check.made("00023", "\\\\\\\\\\\\\\\\\\\\\\\\", "-1\\", "", "$3%\\", "&0$");
        CHECK.due("96, 290, then barred", q.barred(), 4);
        q = Check.made("00002", "\\\\\\\\\\\\\\\\\\\\\\\\", "-1\\", "", "$3%\\");
        CHECK.due("192, then too long", q.barred(), QuotedLayers.LONG);
    }

    private static void grows() {
        QuotedLayers q = Check.made("01234", "$$$", "\"1\\<!", "-1&~", "'3%;&", "$2", "-0");
        CHECK.due("grows(32)", q.grows(32), QuotedLayers.OUTSIDE);
        CHECK.due("grows(127)", q.grows(127), QuotedLayers.OUTSIDE);
        CHECK.due("grows(least)", q.grows(Integer.MIN_VALUE), QuotedLayers.OUTSIDE);
        CHECK.due("grows(!)", q.grows(33), 2);
        CHECK.due("grows(~)", q.grows(126), 4);
        CHECK.due("grows(&)", q.grows('&'), 6);
        CHECK.due("grows(x)", q.grows('x'), 1);
        CHECK.due("the text stays", q.told(20), '$');
        CHECK.due("without layers", new QuotedLayers().grows('~'), 1);
        q = Check.made("0", "y", "$0&");
        CHECK.due("a barred sign", q.grows('&'), QuotedLayers.NONE);
        CHECK.due("a sign that passes", q.grows('y'), 1);
        q = Check.made("0", "y", "$0x");
        CHECK.due("when x is barred", q.grows('y'), QuotedLayers.NONE);
        CHECK.due("x itself", q.grows('x'), QuotedLayers.NONE);
        CHECK.due("OUTSIDE goes ahead", q.grows(127), QuotedLayers.OUTSIDE);
        q = Check.made("0", "y", "-3%x");
        CHECK.due("x is dear, y less so", q.grows('y'), -1);
        CHECK.due("x by itself is 1", q.grows('x'), 1);
        CHECK.due("as dear as x", q.grows('%'), 1);
        CHECK.due("the whole of five doublings", Check.made("00000", "y", "-1\\").grows('\\'), 32);
    }

    private static void safe() {
        QuotedLayers q = Check.made("0", "y", "-3%x");
        CHECK.due("only x and % are as x", q.safe(-1), 2);
        CHECK.due("the first", q.safe(0), '%');
        CHECK.due("the second", q.safe(1), 'x');
        CHECK.due("no third", q.safe(2), QuotedLayers.NONE);
        q = Check.made("0", "y", "!1~");
        CHECK.due("all but two", q.safe(-1), 92);
        CHECK.due("from 34 on", q.safe(0), 34);
        CHECK.due("to 125", q.safe(91), 125);
        CHECK.due("no more", q.safe(92), QuotedLayers.NONE);
        CHECK.due("safe(-2)", q.safe(-2), QuotedLayers.NONE);
        CHECK.due("safe(least)", q.safe(Integer.MIN_VALUE), QuotedLayers.NONE);
        CHECK.due("safe(greatest)", q.safe(Integer.MAX_VALUE), QuotedLayers.NONE);
        CHECK.due("no layers: all", new QuotedLayers().safe(-1), 94);
        CHECK.due("no layers: the last", new QuotedLayers().safe(93), 126);
        q = Check.made("0", "y", "x0");
        CHECK.due("x is barred: how many", q.safe(-1), 0);
        CHECK.due("x is barred: the first", q.safe(0), QuotedLayers.NONE);
        q = Check.made("0", "y", "$0&");
        CHECK.due("barred ones are not safe", q.safe(-1), 92);
    }

    private static void dearest() {
        CHECK.due("of equals the least code", new QuotedLayers().dearest(), 33);
        QuotedLayers q = Check.made("01234", "y", "\"1\\<!", "-1&~", "'3%;&", "$2", "-0");
        CHECK.due("dearest", q.dearest(), '&');
        CHECK.due("two of one growth", Check.made("0", "y", "~1}").dearest(), '}');
        CHECK.due("the mark by way 2", Check.made("0", "y", "~2").dearest(), '~');
        CHECK.due("x is dearest", Check.made("0", "y", "-3~x").dearest(), 'x');
        CHECK.due("x is barred", Check.made("0", "y", "-0x").dearest(), QuotedLayers.NONE);
        CHECK.due("a barred one is not", Check.made("0", "y", "-0!").dearest(), 34);
    }
}
