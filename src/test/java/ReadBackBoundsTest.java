/** Promises 15 to 18: each sentence that names a bound or a refusal, by itself. */
public final class ReadBackBoundsTest {
    private static final Check CHECK = new Check("ReadBackBoundsTest");
    private static final int NONE = QuotedLayers.NONE, OUTSIDE = QuotedLayers.OUTSIDE, STATE = QuotedLayers.STATE;
    private static final int NO = QuotedLayers.NO, LONG = QuotedLayers.LONG;
    private static final String TWELVE_MARKS = "'".repeat(12);
    private static final int[] FAR = {-2, -3, -7, -1000, Integer.MIN_VALUE, Integer.MAX_VALUE};

    public static void main(String[] args) {
        readsTheMarkFirst();
        readsMarkAtTheEnd();
        readsWithoutMark();
        readsNothingBehindTheEnd();
        readsHeldBare();
        readsAhead();
        readsDoubled();
        readsCodes();
        readsDigits();
        readsNumbersCutShort();
        readsNothingAtAll();
        readsFromTheLast();
        readsPlacesOfTheChain();
        readOfEmptyPad();
        readOfAnyPad();
        readWhat();
        readFitsBehindWhatDidNot();
        readNotAllFit();
        spillsPlaces();
        spillsAsItWas();
        spillsBarred();
        spillsLongest();
        spillPlaces();
        spillRows();
        spillWhat();
        spillFirst();
        spillNone();
        twicePlaces();
        twiceLong();
        twiceBarred();
        twiceOfFive();
        CHECK.end();
    }

    private static void readOf(String layer, String found, String want) {
        CHECK.due(found + " by " + layer, Check.read(Check.made("0", "y", layer), found), want);
    }

    private static void readsTheMarkFirst() {
        CHECK.sentence("terms 1: the MARK must stand first (if there is one)");
        String[] layers = {"$0&", "$1\\&", "$2", "$3%&"};
        for (String layer : layers) {
            readOf(layer, "x", "0 at 0");
            readOf(layer, "x$", "0 at 0");
            readOf(layer, "&$x$", "0 at 0");
            readOf(layer, "\\$x$", "0 at 0");
            readOf(layer, "%24x$", "0 at 0");
            readOf(layer, "$x$", "x");
        }
    }

    private static void readsMarkAtTheEnd() {
        CHECK.sentence("terms 1: or the number of signs, if a MARK is missing there");
        String[] layers = {"$0&", "$1\\&", "$2", "$3%&"};
        for (String layer : layers) {
            readOf(layer, "$", "0 at 1");
            readOf(layer, "$x", "0 at 2");
            readOf(layer, "$xyz", "0 at 4");
            readOf(layer, "$" + "x".repeat(59), "0 at 60");
        }
        readOf("$1\\&", "$\\$", "0 at 3");
        readOf("$1\\&", "$\\\\\\$", "0 at 5");
        readOf("$2", "$$$", "0 at 3");
        readOf("$2", "$x$$", "0 at 4");
        readOf("$3%&", "$%24", "0 at 4");
    }

    private static void readsWithoutMark() {
        CHECK.sentence("terms 1: without a MARK it ends with the text");
        readOf("-0", "-", "-");
        readOf("-0", "x-", "x-");
        readOf("-1\\", "-x-", "-x-");
        readOf("-3%", "-x-", "-x-");
        readOf("-3%", "x".repeat(60), "x".repeat(60));
    }

    private static void readsNothingBehindTheEnd() {
        CHECK.sentence("terms 1: a MARK alone ends it: behind it nothing may come");
        String[] layers = {"$0&", "$1\\&", "$3%&"};
        for (String layer : layers) {
            readOf(layer, "$$", "");
            readOf(layer, "$$$", "0 at 2");
            readOf(layer, "$$x", "0 at 2");
            readOf(layer, "$$&", "0 at 2");
            readOf(layer, "$x$y$", "0 at 3");
            readOf(layer, "$x$\\", "0 at 3");
            readOf(layer, "$x$%24", "0 at 3");
        }
        readOf("$2", "$$", "");
        readOf("$2", "$$x", "0 at 2");
        readOf("$2", "$x$y", "0 at 3");
        readOf("$2", "$x$y$", "0 at 3");
        readOf("$2", "$x$$$y", "0 at 5");
    }

    private static void readsHeldBare() {
        CHECK.sentence("terms 1: of a HELD sign that stands there bare");
        readOf("-0ghijkl", "g", "0 at 0");
        readOf("-0ghijkl", "mnol", "0 at 3");
        readOf("$0&", "$x&$", "0 at 2");
        readOf("$0&", "$x&", "0 at 2");
        readOf("$1\\&", "$\\&&$", "0 at 3");
        readOf("$3%&", "$%26&$", "0 at 4");
        readOf("$1\\&", "$x&", "0 at 2");
        readOf("-1\\ghijkl", "\\l\\gl", "0 at 4");
    }

    private static void readsAhead() {
        CHECK.sentence("terms 1: behind a MASK by WAY 1 any sign is as it stands");
        for (char sign = 33; sign <= 126; sign++) {
            readOf("$1\\&", "$\\" + sign + "$", "" + sign);
            readOf("-1\\&", "\\" + sign, "" + sign);
        }
        CHECK.sentence("terms 1: of a MASK without what must come, by WAY 1");
        readOf("$1\\&", "$\\", "0 at 1");
        readOf("$1\\&", "$xy\\", "0 at 3");
        readOf("$1\\&", "$\\\\\\", "0 at 3");
        readOf("-1\\&", "\\", "0 at 0");
        readOf("-1\\&", "x".repeat(59) + "\\", "0 at 59");
        readOf("-1\\&", "x".repeat(58) + "\\&", "x".repeat(58) + "&");
    }

    private static void readsDoubled() {
        CHECK.sentence("terms 1: by WAY 2 two MARKS one behind another are one");
        for (int marks = 1; marks <= 12; marks++) {
            String want = marks % 2 == 0 ? "$".repeat(marks / 2 - 1) : "0 at " + marks;
            readOf("$2", "$".repeat(marks), want);
        }
        readOf("$2", "$$$x$$y$$$", "$x$y$");
        readOf("$2", "$x$$", "0 at 4");
        readOf("$2", "$\\%&-$", "\\%&-");
    }

    private static String twoDigits(int code) {
        return (code < 16 ? "0" : "") + Integer.toString(code, 16);
    }

    private static void readsCodes() {
        CHECK.sentence("terms 1: by WAY 3 two digits of a code 33 to 126");
        for (int code = 0; code < 256; code++) {
            boolean is = code >= 33 && code <= 126;
            readOf("-3%&", "x%" + twoDigits(code), is ? "x" + (char) code : "0 at 1");
            readOf("$3%&", "$%" + twoDigits(code) + "$", is ? "" + (char) code : "0 at 1");
        }
    }

    private static void readsDigits() {
        CHECK.sentence("terms 1: 0 to 9, a to f");
        for (char sign = 33; sign <= 126; sign++) {
            boolean is = Check.isDigitToSixteen(sign);
            int low = is ? Integer.parseInt("" + sign, 16) : 0;
            boolean isHigh = is && low >= 2 && low <= 7;
            readOf("-3%&", "%4" + sign, is ? "" + (char) (64 + low) : "0 at 0");
            readOf("-3%&", "%" + sign + "1", isHigh ? "" + (char) (low * 16 + 1) : "0 at 0");
        }
    }

    private static void readsNumbersCutShort() {
        CHECK.sentence("terms 1: of a MASK without what must come, by WAY 3");
        readOf("-3%&", "%", "0 at 0");
        readOf("-3%&", "%4", "0 at 0");
        readOf("-3%&", "%41", "A");
        readOf("-3%&", "%41%", "0 at 3");
        readOf("-3%&", "%41%4", "0 at 3");
        readOf("-3%&", "%%", "0 at 0");
        readOf("-3%&", "%%41", "0 at 0");
        readOf("$3%&", "$%$", "0 at 1");
        readOf("$3%&", "$%4$", "0 at 1");
        readOf("$3%&", "$%4", "0 at 1");
        readOf("$3%&", "$%", "0 at 1");
        readOf("-3%&", "x".repeat(58) + "%4", "0 at 58");
        readOf("-3%&", "x".repeat(57) + "%26", "x".repeat(57) + "&");
    }

    private static void readsNothingAtAll() {
        CHECK.sentence("terms 1: a text without signs, as an inner LAYER may have it");
        String[] inner = {"\"0", "\"1\\", "\"2", "\"3%"};
        for (String layer : inner) {
            QuotedLayers q = Check.made("01", "y", layer, "$2");
            CHECK.due("$$ by " + layer, Check.read(q, "$$"), "0 at 0");
        }
        String[] without = {"-0&", "-1\\", "-3%"};
        for (String layer : without) {
            QuotedLayers q = Check.made("001", "y", layer, "$2");
            CHECK.due("$$ by " + layer, Check.read(q, "$$"), "");
            CHECK.due("read(-1)", q.read(-1), NONE);
            CHECK.due("read(-2)", q.read(-2), NONE);
            CHECK.due("read(-3)", q.read(-3), 0);
            CHECK.due("read(0)", q.read(0), NONE);
        }
    }

    private static void readsFromTheLast() {
        CHECK.sentence("terms 3: from the last LAYER to the first: at which it first does not fit");
        QuotedLayers q = Check.made("012", "y", "\"1\\", "'2", "$0&");
        CHECK.due("all fit", Check.read(q, "$'\"x\"'$"), "x");
        CHECK.due("none fits", Check.read(q, "x"), "2 at 0");
        CHECK.due("two do not", Check.read(q, "$x$"), "1 at 0");
        CHECK.due("one does not", Check.read(q, "$'x'$"), "0 at 0");
        CHECK.due("its own place, not that of the pad", Check.read(q, "$'\"x''\"y'$"), "0 at 4");
        CHECK.due("the last sign of its own text", Check.read(q, "$'\"x''''y'$"), "0 at 5");
    }

    private static void readsPlacesOfTheChain() {
        CHECK.sentence("15: BAD's place of THE CHAIN (what = -1)");
        String[] chains = {"01111", "10111", "11011", "11101", "11110"};
        for (int place = 0; place < chains.length; place++) {
            QuotedLayers q = Check.made(chains[place], "y", "-0&");
            CHECK.due("by " + chains[place], Check.read(q, "xy&"), place + " at 2");
        }
        CHECK.due("by one more than once", Check.read(Check.made("00100", "y", "-0&"), "xy&"), "4 at 2");
    }

    private static void readOfEmptyPad() {
        CHECK.sentence("15: STATE: the PAD is empty");
        QuotedLayers[] any = {new QuotedLayers(), Check.made("01", "y", "\"1\\", "'2"), Check.made("00000", "y", "-0")};
        for (QuotedLayers q : any) {
            for (int what = -5; what <= 5; what++) {
                CHECK.due("read(" + what + ")", q.read(what), STATE);
            }
            CHECK.due("read(least)", q.read(Integer.MIN_VALUE), STATE);
            CHECK.due("read(greatest)", q.read(Integer.MAX_VALUE), STATE);
            q.say('x');
            CHECK.due("read(-1) of one sign", q.read(-1) == STATE ? 1 : 0, 0);
            q.wipe();
            CHECK.due("read(-1) when wiped", q.read(-1), STATE);
        }
    }

    private static void readOfAnyPad() {
        CHECK.sentence("15: READ BACK of the PAD, of 1 to 60 SIGNS");
        QuotedLayers q = new QuotedLayers();
        CHECK.due("one sign by no LAYER", Check.read(q, "x"), "x");
        String sixty = "ab\"'".repeat(15);
        CHECK.due("sixty by no LAYER", Check.read(q, sixty), sixty);
        q = Check.made("00000", "y", "-1\\");
        CHECK.due("32 are one", Check.read(q, "\\".repeat(32)), "\\");
        CHECK.due("48 are one and a half", Check.read(q, "\\".repeat(48)), "0 at 2");
        CHECK.due("60 are less", Check.read(q, "\\".repeat(60)), "2 at 14");
        CHECK.due("31 are odd", Check.read(q, "\\".repeat(31)), "4 at 30");
    }

    private static void readWhat() {
        CHECK.sentence("15: NONE: all fit; how many signs come out (-3), the i-th (what = i); NONE");
        QuotedLayers q = Check.made("0", "y", "$1\\");
        Check.pad(q, "$x\\$$");
        CHECK.due("read(-1)", q.read(-1), NONE);
        CHECK.due("read(-2)", q.read(-2), NONE);
        CHECK.due("read(-3)", q.read(-3), 2);
        CHECK.due("read(0)", q.read(0), 'x');
        CHECK.due("read(1)", q.read(1), '$');
        CHECK.due("read(2)", q.read(2), NONE);
        CHECK.due("read(4)", q.read(4), NONE);
        int[] none = {-4, -5, -1000, Integer.MIN_VALUE, Integer.MAX_VALUE, 60, 61, 400};
        for (int what : none) {
            CHECK.due("read(" + what + ")", q.read(what), NONE);
        }
        for (int what : Check.wrapped(0)) {
            CHECK.due("read(" + what + ")", q.read(what), NONE);
        }
        CHECK.due("the PAD stays", q.told(0), 5);
    }

    private static void readFitsBehindWhatDidNot() {
        CHECK.sentence("15: NONE: all fit, behind a text or a CHAIN that did not");
        QuotedLayers q = Check.made("0", "y", "$1\\");
        CHECK.due("no MARK at the end", Check.read(q, "$xy"), "0 at 3");
        CHECK.due("another text", Check.read(q, "$xy$"), "xy");
        CHECK.due("its bad sign", q.read(-2), NONE);
        CHECK.due("no MARK at the end again", Check.read(q, "$xy"), "0 at 3");
        q.unchain();
        CHECK.due("read(-1) of no LAYER", q.read(-1), NONE);
        CHECK.due("read(-2) of no LAYER", q.read(-2), NONE);
        CHECK.due("read(-3) of no LAYER", q.read(-3), 3);
        CHECK.due("read(0) of no LAYER", q.read(0), '$');
    }

    private static void readNotAllFit() {
        CHECK.sentence("15: NONE: also if not all fit");
        QuotedLayers q = Check.made("01", "y", "$1\\", "'2");
        Check.pad(q, "'$xy'");
        CHECK.due("read(-1)", q.read(-1), 0);
        CHECK.due("read(-2)", q.read(-2), 3);
        for (int what = -8; what <= 8; what++) {
            if (what != -1 && what != -2) {
                CHECK.due("read(" + what + ")", q.read(what), NONE);
            }
        }
        CHECK.due("read(least)", q.read(Integer.MIN_VALUE), NONE);
        CHECK.due("read(greatest)", q.read(Integer.MAX_VALUE), NONE);
    }

    private static void placesOf(String call, int size, int place, int got, int within) {
        CHECK.due(call + "(" + place + ") of " + size, got, place >= 0 && place < size ? within : OUTSIDE);
    }

    private static void spillsPlaces() {
        CHECK.sentence("16: OUTSIDE: a place of THE CHAIN");
        for (int size = 0; size <= 5; size++) {
            QuotedLayers q = Check.made("00000".substring(0, size), "x", "-1\\");
            for (int place = -3; place <= 8; place++) {
                placesOf("spills", size, place, q.spills(place), 0);
            }
            for (int far : FAR) {
                placesOf("spills", size, far, q.spills(far), 0);
            }
            for (int far : Check.wrapped(0)) {
                placesOf("spills", size, far, q.spills(far), 0);
            }
        }
        CHECK.due("OUTSIDE ahead of NO", Check.made("0", "&", "-0&").spills(1), OUTSIDE);
        CHECK.due("OUTSIDE ahead of LONG", Check.made("00000", TWELVE_MARKS, "'2").spills(5), OUTSIDE);
    }

    private static void spillsAsItWas() {
        CHECK.sentence("16: 0 as it was; 1 as another text; 2 not at all");
        QuotedLayers q = Check.made("0", "x", "$1\\");
        CHECK.due("x", q.spills(0), 0);
        Check.pad(q, "\\x").text();
        CHECK.due("as another", q.spills(0), 1);
        Check.pad(q, "$").text();
        CHECK.due("not at all", q.spills(0), 2);
        q = Check.made("0", "%78", "-3%");
        CHECK.due("of another length", q.spills(0), 1);
        q = Check.made("0", "$$", "$2");
        CHECK.due("one mark less", q.spills(0), 1);
        // another text of the same length: the second layer masks the 3 of %32, or does not
        CHECK.due("as long as it was", Check.made("012", "\"32", "%1\"", "$1'%\"", "-1\"").spills(2), 1);
    }

    private static void spillsBarred() {
        CHECK.sentence("16: NO: another LAYER bars it");
        CHECK.due("itself, forgotten, does not", Check.made("0", "&", "-0&").spills(0), 2);
        QuotedLayers q = Check.made("012", "&", "-1\\", "-0&", "'2");
        CHECK.due("the one outside it", q.spills(0), NO);
        CHECK.due("itself", q.spills(1), 2);
        CHECK.due("the one within it", q.spills(2), NO);
        q = Check.made("00", "&", "-0&");
        CHECK.due("the same LAYER at another place", q.spills(0), NO);
        CHECK.due("the same LAYER at another place", q.spills(1), NO);
        q = Check.made("00", "x", "$0");
        CHECK.due("its marks, put where it forgot to mask", q.spills(0), NO);
        CHECK.due("the marks that it forgets", q.spills(1), 2);
    }

    private static void spillsLongest() {
        CHECK.sentence("16: up to 400 SIGNS; with a LAYER forgotten there are never more");
        // 14, 30, 62, 126, all of them numbers, and two marks: the most that can be
        QuotedLayers q = Check.made("00001", TWELVE_MARKS, "'2", "\"3%'");
        CHECK.due("behind(5, -1)", q.behind(5, -1), LONG);
        CHECK.due("spills(0)", q.spills(0), 1);
        CHECK.due("spills(4)", q.spills(4), 2);
        q = Check.made("00000", TWELVE_MARKS, "'2");
        CHECK.due("224 signs at the most by way 2, spills(4)", q.spills(4), 2);
        CHECK.due("six of twelve marks come out, spills(0)", q.spills(0), 1);
        // 28 marks are 13, and these have no end
        CHECK.due("spills(1)", q.spills(1), 2);
    }

    private static void spillPlaces() {
        CHECK.sentence("17: OUTSIDE: a place; ahead of STATE");
        for (int size = 0; size <= 5; size++) {
            QuotedLayers q = Check.made("00000".substring(0, size), "x", "-1\\");
            for (int place = -3; place <= 8; place++) {
                placesOf("spill of no row", size, place, q.spill(place, 0), STATE);
            }
            q.say('\\');
            for (int place = -3; place <= 8; place++) {
                placesOf("spill", size, place, q.spill(place, 0), '\\');
                placesOf("spill, i below", size, place, q.spill(place, -2), NONE);
            }
            for (int far : FAR) {
                placesOf("spill", size, far, q.spill(far, 0), NONE);
            }
            for (int far : Check.wrapped(0)) {
                placesOf("spill", size, far, q.spill(far, -1), NONE);
            }
        }
    }

    private static void spillRows() {
        CHECK.sentence("17: the PAD, 1 to 5 unlike SIGNS; STATE: the PAD is not such a row");
        QuotedLayers q = Check.made("0", "y", "-1\\");
        String signs = "vwxyz!";
        for (int size = 0; size <= 6; size++) {
            Check.pad(q, signs.substring(0, size));
            int want = size >= 1 && size <= 5 ? NONE : STATE;
            for (int i = -2; i <= 1; i++) {
                CHECK.due("spill(0, " + i + ") of " + size, q.spill(0, i), want);
            }
        }
        CHECK.due("sixty", Check.pad(q, "x".repeat(60)).spill(0, -1), STATE);
        for (int late = 1; late < 5; late++) {
            for (int early = 0; early < late; early++) {
                String row = "vwxyz".substring(0, late) + signs.charAt(early) + signs.substring(late + 1, 5);
                CHECK.due("spill(0, -1) of " + row, Check.pad(q, row).spill(0, -1), STATE);
                row = row.substring(0, late + 1);
                CHECK.due("spill(0, -1) of " + row, Check.pad(q, row).spill(0, -1), STATE);
            }
        }
        CHECK.due("of x and X", Check.spill(q, "xX\\", 0), "\\");
    }

    private static void spillWhat() {
        CHECK.sentence("17: how many signs (i = -1), the i-th; NONE");
        QuotedLayers q = Check.made("0", "y", "-1\\");
        Check.pad(q, "xy\\");
        CHECK.due("spill(0, -1)", q.spill(0, -1), 1);
        CHECK.due("spill(0, 0)", q.spill(0, 0), '\\');
        CHECK.due("spill(0, 1)", q.spill(0, 1), NONE);
        CHECK.due("spill(0, 4)", q.spill(0, 4), NONE);
        for (int i : FAR) {
            CHECK.due("spill(0, " + i + ")", q.spill(0, i), NONE);
        }
        for (int i : Check.wrapped(0)) {
            CHECK.due("spill(0, " + i + ")", q.spill(0, i), NONE);
        }
        CHECK.due("the PAD stays", q.told(0), 3);
        CHECK.due("THE TEXT stays", q.told(20), 'y');
        CHECK.due("THE TEXT stays one sign", q.told(1), 1);
    }

    private static void spillFirst() {
        CHECK.sentence("17: the first, by length, then by the row's order, that spills");
        QuotedLayers q = Check.made("0", "y", "\"1\\<");
        CHECK.due("the first of the row", Check.spill(q, "\"x<\\", 0), "\"");
        CHECK.due("the second", Check.spill(q, "x<\\\"", 0), "<");
        CHECK.due("the last of five, not that of the least code", Check.spill(q, "xyz~\\", 0), "\\");
        CHECK.due("the first of two, not that of the least code", Check.spill(q, "\\\"", 0), "\\");
        CHECK.due("as another text is a spill, too", Check.spill(Check.made("0", "y", "\"2"), "x\"", 0), "\"");
        CHECK.due("any text spills", Check.spill(Check.made("00", "y", "\"1\\"), "zx", 1), "z");
    }

    private static void spillNone() {
        CHECK.sentence("17: NONE: none spills (or all are BARRED: these do not count)");
        QuotedLayers q = Check.made("0", "y", "\"1\\<");
        CHECK.due("none of one sign", Check.spill(q, "x", 0), "-6");
        CHECK.due("none of five", Check.spill(q, "12ab>", 0), "-6");
        q = Check.made("01", "y", "\"1\\", "$0\\&");
        CHECK.due("all are BARRED", Check.spill(q, "$&", 0), "-6");
        CHECK.due("those that spill are BARRED", Check.spill(q, "x\\", 0), "-6");
        CHECK.due("a BARRED one stands ahead", Check.spill(q, "\\\"x", 0), "\"");
        CHECK.due("it bars none when it is forgotten", Check.spill(q, "\\&x", 1), "\\");
        CHECK.due("the one that masks is not", Check.spill(Check.made("0", "y", "-0"), "\"\\<&$", 0), "-6");
        CHECK.due("with THE TEXT BARRED", Check.spill(Check.made("01", "&", "-1\\", "-0&"), "x\\", 0), "\\");
    }

    private static void twicePlaces() {
        CHECK.sentence("18: OUTSIDE: a place of THE CHAIN");
        for (int size = 0; size <= 5; size++) {
            QuotedLayers q = Check.made("00000".substring(0, size), "x", "-1\\");
            for (int place = -3; place <= 8; place++) {
                placesOf("twice", size, place, q.twice(place), 0);
            }
            for (int far : FAR) {
                placesOf("twice", size, far, q.twice(far), 0);
            }
            for (int far : Check.wrapped(0)) {
                placesOf("twice", size, far, q.twice(far), 0);
            }
        }
        CHECK.due("OUTSIDE ahead of NO", Check.made("0", "&", "-0&").twice(1), OUTSIDE);
        CHECK.due("OUTSIDE ahead of LONG", Check.made("00000", TWELVE_MARKS, "'2").twice(-1), OUTSIDE);
    }

    private static void twiceLong() {
        CHECK.sentence("18: LONG");
        QuotedLayers q = Check.made("00001", TWELVE_MARKS, "'2", "-0'");
        for (int place = 0; place < 4; place++) {
            CHECK.due("446 signs ahead of what bars, twice(" + place + ")", q.twice(place), LONG);
        }
        CHECK.due("222 signs, then barred", q.twice(4), NO);
        q = Check.made("0000", TWELVE_MARKS, "'2");
        CHECK.due("behind(4, -1)", q.behind(4, -1), 222);
        CHECK.due("twice is 446 signs", q.twice(0), LONG);
        // 12 * 32 = 384 by five, and 12 * 16 by four: twice is 384 again
        q = Check.made("0000", "\\".repeat(12), "-1\\");
        CHECK.due("twice is 384 signs", q.twice(3), 1);
        q = Check.made("00001", "\\".repeat(12), "-1\\", "$0");
        CHECK.due("384 and two marks", q.twice(0), 1);
        // 23, 41, 77, 144, of which 128 become numbers: 400 ahead of the last LAYER
        String[] to400 = {"\"1'\\", "-1\\'", "\"1\\", "-3%\\", "-0"};
        CHECK.due("twice is 400 signs", Check.made("01234", "\\".repeat(9) + "yyy", to400).twice(1), 2);
        to400[4] = "$0";
        CHECK.due("twice is 400 and two marks", Check.made("01234", "\\".repeat(9) + "yyy", to400).twice(1), LONG);
        to400[4] = "-0%";
        CHECK.due("400 are barred", Check.made("01234", "\\".repeat(9) + "yyy", to400).twice(1), NO);
        // nothing is too long ahead of the LAYER that bars it
        to400[4] = "$0%";
        CHECK.due("400 are barred within marks", Check.made("01234", "\\".repeat(9) + "yyy", to400).twice(1), NO);
        // 21, 41, 81, of which 80 become numbers: 241, and once more: 401
        String[] to401 = {"-1\\'", "-1\\", "-3%\\", "-0", "-0%"};
        CHECK.due("twice is 401 signs", Check.made("01023", "\\".repeat(10) + "y", to401).twice(3), LONG);
        CHECK.due("401 ahead of what bars", Check.made("01024", "\\".repeat(10) + "y", to401).twice(3), LONG);
    }

    private static void twiceBarred() {
        CHECK.sentence("18: NO");
        CHECK.due("it bars the text", Check.made("0", "&", "-0&").twice(0), NO);
        CHECK.due("it bars its own marks", Check.made("0", "x", "$0").twice(0), NO);
        CHECK.due("without marks it does not", Check.made("0", "x", "-0&").twice(0), 0);
        QuotedLayers q = Check.made("012", "x", "$2", "-1\\", "-0$");
        CHECK.due("another one bars it, twice(0)", q.twice(0), NO);
        CHECK.due("another one bars it, twice(1)", q.twice(1), NO);
        CHECK.due("another one bars it, twice(2)", q.twice(2), NO);
        q = Check.made("01", "x", "-3%x", "-0%");
        CHECK.due("barred, too, as it is", q.barred(), 1);
        q = Check.made("01", "x", "-1\\", "-0\\");
        CHECK.due("not barred as it is", q.twice(0), 0);
    }

    private static void twiceOfFive() {
        CHECK.sentence("18: THE CHAIN with its LAYER at i once more behind itself, of five LAYERS, too");
        QuotedLayers q = Check.made("01234", "x", "-0", "-0", "-0", "-0", "$1\\");
        for (int place = 0; place < 4; place++) {
            CHECK.due("twice(" + place + ")", q.twice(place), 0);
        }
        CHECK.due("twice(4)", q.twice(4), 1);
        q = Check.made("40123", "x", "-0", "-0", "-0", "-0", "$1\\");
        CHECK.due("the innermost, twice(0)", q.twice(0), 1);
        CHECK.due("twice(1)", q.twice(1), 0);
        // outside of $2, its marks are doubled once more, and it reads them as the end of what is within
        q = Check.made("01", "x", "\"2", "$2");
        CHECK.due("the outer one, twice(1)", q.twice(1), 2);
        CHECK.due("the inner one, twice(0)", q.twice(0), 1);
        CHECK.due("the chain stays", q.told(2), 2);
    }
}
