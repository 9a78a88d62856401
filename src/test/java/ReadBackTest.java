/** Promises 15 to 18, with ordinary chains and texts. */
public final class ReadBackTest {
    private static final Check CHECK = new Check("ReadBackTest");
    private static final String TWELVE_MARKS = "''''''''''''";

    public static void main(String[] args) {
        readWayUnmasked();
        readWayAhead();
        readWayDoubled();
        readWayNumbered();
        readChains();
        spills();
        spillsRefused();
        spill();
        twice();
        CHECK.end();
    }

    private static void readOf(String layer, String found, String want) {
        CHECK.due(found + " by " + layer, Check.read(Check.made("0", "y", layer), found), want);
    }

    private static void readWayUnmasked() {
        readOf("-0", "a\"\\%~!", "a\"\\%~!");
        readOf("-0&<", "ab", "ab");
        readOf("-0&<", "ab<&", "0 at 2");
        readOf("-0&<", "&", "0 at 0");
        readOf("$0&", "$ab$", "ab");
        readOf("$0&", "$$", "");
        readOf("$0&", "ab$", "0 at 0");
        readOf("$0&", "$", "0 at 1");
        readOf("$0&", "$ab", "0 at 3");
        readOf("$0&", "$a$b", "0 at 3");
        readOf("$0&", "$a$$", "0 at 3");
        readOf("$0&", "$a&$", "0 at 2");
        readOf("$0&", "&a$", "0 at 0");
        readOf("$0&", "$$&", "0 at 2");
    }

    private static void readWayAhead() {
        readOf("\"1\\<", "\"ab\"", "ab");
        readOf("\"1\\<", "\"\\\"\\\\\\<\"", "\"\\<");
        readOf("\"1\\<", "\"\\a\\b\"", "ab");
        readOf("\"1\\<", "\"\\\"", "0 at 3");
        readOf("\"1\\<", "\"a\\", "0 at 2");
        readOf("\"1\\<", "\"a<\"", "0 at 2");
        readOf("\"1\\<", "\"a\"b\"", "0 at 3");
        readOf("\"1\\<", "\\\"a\"", "0 at 0");
        readOf("-1\\<", "a\\<b", "a<b");
        readOf("-1\\<", "a\\", "0 at 1");
        readOf("-1\\<", "\\\\\\", "0 at 2");
        readOf("-1\\<", "<", "0 at 0");
        readOf("-1\\<", "-", "-");
        readOf("-1\\<", "\\-", "-");
    }

    private static void readWayDoubled() {
        readOf("'2", "''", "");
        readOf("'2", "'", "0 at 1");
        readOf("'2", "'''", "0 at 3");
        readOf("'2", "''''", "'");
        readOf("'2", "'a''b'", "a'b");
        readOf("'2", "'a'b'", "0 at 3");
        readOf("'2", "'a''", "0 at 4");
        readOf("'2", "'a'''b", "0 at 5");
        readOf("'2", "a'", "0 at 0");
        readOf("'2", "'a", "0 at 2");
    }

    private static void readWayNumbered() {
        readOf("-3%<", "%3c%25", "<%");
        readOf("-3%<", "%21%7e", "!~");
        readOf("-3%<", "%20", "0 at 0");
        readOf("-3%<", "%7f", "0 at 0");
        readOf("-3%<", "%80", "0 at 0");
        readOf("-3%<", "%1f", "0 at 0");
        readOf("-3%<", "%00", "0 at 0");
        readOf("-3%<", "%ff", "0 at 0");
        readOf("-3%<", "a%3C", "0 at 1");
        readOf("-3%<", "a%g1", "0 at 1");
        readOf("-3%<", "a%3", "0 at 1");
        readOf("-3%<", "a%", "0 at 1");
        readOf("-3%<", "a%%25", "0 at 1");
        readOf("-3%<", "%4/", "0 at 0");
        readOf("-3%<", "%4:", "0 at 0");
        readOf("-3%<", "%4`", "0 at 0");
        readOf("-3%<", "%4g", "0 at 0");
        readOf("-3%<", "%40%49%4a%4f", "@IJO");
        readOf("-3%<", "a<", "0 at 1");
        readOf("'3%<", "'%27%61'", "'a");
        readOf("'3%<", "'%2'", "0 at 1");
        readOf("'3%<", "'%27", "0 at 4");
        readOf("'3%<", "''%27", "0 at 2");
    }

    private static void readChains() {
        QuotedLayers q = Check.made("01", "y", "\"1\\", "'2");
        CHECK.due("both fit", Check.read(q, "'\"x\\\"\"'"), "x\"");
        CHECK.due("the inner one ends early", Check.read(q, "'\"x\"y'"), "0 at 3");
        CHECK.due("the outer one has no end", Check.read(q, "'\"x\"y"), "1 at 5");
        CHECK.due("the inner one gets nothing", Check.read(q, "''"), "0 at 0");
        CHECK.due("an empty chain", Check.read(new QuotedLayers(), "ab\""), "ab\"");
        q = Check.made("01234", "\"&<$'x%", "\"1\\<!", "-1&~", "'3%;&", "$2", "-0");
        CHECK.due("five layers", Check.read(q, "$'\"\\\"%26%26\\<$$%27x%25\"'$"), "\"&<$'x%");
        CHECK.due("the place is that in the layer's own text", Check.read(q, "$'\"%24$$&\"'$"), "2 at 6");
    }

    private static void spillsOf(String chain, String text, int place, int want, String... layers) {
        CHECK.due(text + " by " + chain + " forgotten at " + place,
            Check.made(chain, text, layers).spills(place), want);
    }

    private static void spills() {
        spillsOf("0", "ab", 0, 0, "\"1\\<");
        spillsOf("0", "a\"", 0, 2, "\"1\\<");
        spillsOf("0", "\\a", 0, 1, "\"1\\<");
        spillsOf("0", "\\", 0, 2, "\"1\\<");
        spillsOf("0", "<", 0, 2, "\"1\\<");
        spillsOf("0", "%41", 0, 1, "-3%");
        spillsOf("0", "%4", 0, 2, "-3%");
        spillsOf("0", "''", 0, 1, "'2");
        spillsOf("0", "&", 0, 2, "$0&");
        spillsOf("01", "x", 1, 2, "\"1\\", "\"2");
        spillsOf("01", "\"", 0, 2, "\"1\\", "$2");
        spillsOf("00", "x", 0, 0, "\"1\\");
        spillsOf("00", "x", 1, 2, "\"1\\");
        // another text of the same length
        spillsOf("012", "\"32", 2, 1, "%1\"", "$1'%\"", "-1\"");
        // the layers of one kind mask at the other place
        spillsOf("00", "\\\\", 0, 1, "-1\\");
        spillsOf("00", "\\\\", 1, 1, "-1\\");
    }

    private static void spillsRefused() {
        QuotedLayers q = Check.made("01", "x", "\"1\\", "$0&");
        CHECK.due("spills(-1)", q.spills(-1), QuotedLayers.OUTSIDE);
        CHECK.due("spills(2)", q.spills(2), QuotedLayers.OUTSIDE);
        CHECK.due("spills of an empty chain", new QuotedLayers().spills(0), QuotedLayers.OUTSIDE);
        q = Check.made("01", "&", "\"1\\", "$0&");
        CHECK.due("another one bars it", q.spills(0), QuotedLayers.NO);
        CHECK.due("forgotten, it bars nothing", q.spills(1), 2);
        q = Check.made("10", "&", "\"1\\", "$0&");
        CHECK.due("another one bars it first", q.spills(1), QuotedLayers.NO);
        CHECK.due("the first is forgotten", q.spills(0), 2);
        q = Check.made("00000", TWELVE_MARKS, "'2");
        CHECK.due("forgotten, it is short enough", q.spills(0), 1);
        q = Check.made("00001", "\\\\\\\\\\\\\\\\\\\\\\\\", "-1\\", "\"3%\\");
        CHECK.due("192 by numbers are too long", q.behind(5, -1), QuotedLayers.LONG);
        CHECK.due("194 without the numbers are not", q.spills(4), 2);
        q = Check.made("01111", TWELVE_MARKS, "$0&", "'2");
        CHECK.due("12 by 16, and the marks", q.behind(5, -1), 12 * 16 + 2 + 30);
        CHECK.due("nothing to mask at 0", q.spills(0), 0);
        CHECK.due("marks to mask at 1", q.spills(1), 1);
    }

    private static void spillOf(String chain, String row, int place, String want, String... layers) {
        CHECK.due(row + " by " + chain + " forgotten at " + place,
            Check.spill(Check.made(chain, "y", layers), row, place), want);
    }

    private static void spill() {
        spillOf("0", "x<\\\"", 0, "<", "\"1\\<");
        spillOf("0", "\"\\<", 0, "\"", "\"1\\<");
        spillOf("0", "xyz", 0, "-6", "\"1\\<");
        spillOf("0", "x", 0, "-6", "\"1\\<");
        // by way 2 no mark can stand bare
        spillOf("0", "x'", 0, "'", "'2");
        // a lone % does not read, so length 1 is found first
        spillOf("0", "41%", 0, "%", "-3%");
        // the outer layer masks what the inner one forgot, so it is the inner reading that fails
        spillOf("01", "x'\"", 0, "\"", "\"1\\", "'2");
        spillOf("01", "x\"'", 1, "'", "\"1\\", "'2");
        // inner marks spill from every text
        spillOf("00", "zx", 1, "z", "\"1\\");
        spillOf("00", "zx", 0, "-6", "\"1\\");
        // barred ones do not count
        spillOf("01", "&x", 0, "-6", "\"1\\", "$0&");
        spillOf("01", "&x", 1, "&", "-1\\", "$0&");
        spillOf("01", "&\"", 0, "\"", "\"1\\", "$0&");
        // numbers need more than one sign: the outer layer forgets, and the inner one's masks mean something
        spillOf("01", "xy", 1, "-6", "-3%", "-3%");
        spillOf("01", "x%", 1, "%", "-3%", "-3%");
        spillOf("10", "26%", 1, "%", "-3%", "-3%");
        spillOf("01", "x~", 1, "~", "-1\\~", "-1\\");
    }

    private static void twiceOf(String chain, String text, int place, int want, String... layers) {
        CHECK.due(text + " by " + chain + " twice at " + place,
            Check.made(chain, text, layers).twice(place), want);
    }

    private static void twice() {
        twiceOf("0", "x", 0, 1, "\"1\\");
        twiceOf("0", "x", 0, 0, "-1\\");
        twiceOf("0", "\\", 0, 1, "-1\\");
        twiceOf("0", "x", 0, 0, "-0");
        twiceOf("01", "x", 1, 2, "\"1\\", "'2");
        twiceOf("01", "x", 0, 1, "\"1\\", "'2");
        twiceOf("0", "&", 0, QuotedLayers.NO, "-0&");
        twiceOf("0", "x", 0, QuotedLayers.NO, "$0&");
        twiceOf("01", "&", 1, QuotedLayers.NO, "-0&", "'2");
        twiceOf("0", "x", 1, QuotedLayers.OUTSIDE, "\"1\\");
        twiceOf("0", "x", -1, QuotedLayers.OUTSIDE, "\"1\\");
        twiceOf("", "x", 0, QuotedLayers.OUTSIDE, "\"1\\");
        twiceOf("00000", TWELVE_MARKS, 2, QuotedLayers.LONG, "'2");
        twiceOf("0000", TWELVE_MARKS, 3, QuotedLayers.LONG, "'2");
        twiceOf("000", TWELVE_MARKS, 0, 1, "'2");
        // another text of the same length
        twiceOf("012", "'", 2, 1, "\"1$", "-1'%", "-1$'%");
        // asked again, and behind a call that goes through five layers
        QuotedLayers q = Check.made("00001", "<", "-3%<", "\"1\\<");
        CHECK.due("behind 5", q.behind(5, -1), 11);
        CHECK.due("twice at 4", q.twice(4), 1);
        CHECK.due("twice at 0", q.twice(0), 1);
        CHECK.due("twice at 4 again", q.twice(4), 1);
        // five layers and one more: the second layer masks what the first one's numbers stand in
        twiceOf("12340", "<", 0, 1, "-3%<", "-1<", "-0", "-0", "-0");
        twiceOf("12340", "<", 1, 0, "-3%<", "-1<", "-0", "-0", "-0");
        twiceOf("12340", "<", 4, 1, "-3%<", "-1<", "-0", "-0", "-0");
    }
}
