/** Promises 1 to 6: each sentence that names a bound or a refusal, by itself. */
public final class LayersBoundsTest {
    private static final Check CHECK = new Check("LayersBoundsTest");
    private static final int NONE = QuotedLayers.NONE, UNKNOWN = QuotedLayers.UNKNOWN, OUTSIDE = QuotedLayers.OUTSIDE;
    private static final int FULL = QuotedLayers.FULL, NO = QuotedLayers.NO;

    public static void main(String[] args) {
        newLayers();
        newChain();
        newText();
        newObjectsShareNothing();
        signsHaveCodes();
        padHoldsSixty();
        fullPadIsRefusedLast();
        wipeOfAnyPad();
        markMayBeNone();
        ways();
        wayTwoNeedsMark();
        heldAreSixAtMost();
        wayTwoHoldsNone();
        signsThatAreMarks();
        signsThatAreMasks();
        signsThatAreHeld();
        unlikeEachOther();
        moreMustCome();
        firstOfSeveralFaults();
        noFault();
        layersAreFive();
        layerEmptiesPad();
        layerRefused();
        layerAnswersHeld();
        aboutParts();
        aboutRefused();
        CHECK.end();
    }

    private static void newLayers() {
        CHECK.sentence("1: all LAYERS are -0");
        for (int layer = 0; layer <= 4; layer++) {
            aboutAll(new QuotedLayers(), layer, NONE, 0);
        }
    }

    private static void newChain() {
        CHECK.sentence("1: THE CHAIN is empty");
        QuotedLayers q = new QuotedLayers();
        CHECK.due("told(2)", q.told(2), 0);
        CHECK.due("told(10)", q.told(10), NONE);
        CHECK.due("unchain()", q.unchain(), NO);
    }

    private static void newText() {
        CHECK.sentence("1: THE TEXT is x at first, the PAD empty, no IMAGE kept");
        QuotedLayers q = new QuotedLayers();
        CHECK.due("told(1)", q.told(1), 1);
        CHECK.due("told(20)", q.told(20), 'x');
        CHECK.due("told(21)", q.told(21), NONE);
        CHECK.due("told(0)", q.told(0), 0);
        CHECK.due("restore(0)", q.restore(0), QuotedLayers.STATE);
        CHECK.due("restore(1)", q.restore(1), QuotedLayers.STATE);
    }

    private static void newObjectsShareNothing() {
        CHECK.sentence("1: a new object, whatever others were told");
        String first = Check.all(new QuotedLayers());
        QuotedLayers changed = Check.made("01234", "abc", "\"1\\<", "'2", "$3%", "&0!", "-0~");
        changed.image(0);
        changed.image(1);
        Check.pad(changed, "pad");
        CHECK.due("another object", Check.all(new QuotedLayers()), first);
        CHECK.due("the changed one keeps its layers", changed.about(0, 0), '"');
    }

    private static void signsHaveCodes() {
        CHECK.sentence("2: SIGNS have codes 33 to 126; OUTSIDE");
        for (int sign = -3; sign < 300; sign++) {
            QuotedLayers q = new QuotedLayers();
            boolean is = sign >= 33 && sign <= 126;
            CHECK.due("say(" + sign + ")", q.say(sign), is ? 1 : OUTSIDE);
            CHECK.due("read(0) of it", q.read(0), is ? sign : QuotedLayers.STATE);
        }
        QuotedLayers q = new QuotedLayers();
        for (int wrapped : Check.wrapped('a')) {
            CHECK.due("say(" + wrapped + ")", q.say(wrapped), OUTSIDE);
        }
        CHECK.due("say(greatest)", q.say(Integer.MAX_VALUE), OUTSIDE);
        CHECK.due("say(least)", q.say(Integer.MIN_VALUE), OUTSIDE);
        CHECK.due("told(0)", q.told(0), 0);
    }

    private static void padHoldsSixty() {
        CHECK.sentence("2: a PAD of 60 SIGNS at most; FULL");
        QuotedLayers q = new QuotedLayers();
        for (int i = 1; i <= 60; i++) {
            CHECK.due("say no. " + i, q.say(33 + i), i);
        }
        CHECK.due("say no. 61", q.say('!'), FULL);
        CHECK.due("say no. 62", q.say('!'), FULL);
        CHECK.due("told(0)", q.told(0), 60);
        for (int i = 0; i < 60; i++) {
            CHECK.due("read(" + i + ")", q.read(i), 34 + i);
        }
        CHECK.due("read(60)", q.read(60), NONE);
    }

    private static void fullPadIsRefusedLast() {
        CHECK.sentence("2: OUTSIDE is answered ahead of FULL");
        QuotedLayers q = Check.pad(new QuotedLayers(), "x".repeat(60));
        CHECK.due("say(32)", q.say(32), OUTSIDE);
        CHECK.due("say(127)", q.say(127), OUTSIDE);
        CHECK.due("say(126)", q.say(126), FULL);
    }

    private static void wipeOfAnyPad() {
        CHECK.sentence("3: signs go: how many there were");
        QuotedLayers q = new QuotedLayers();
        CHECK.due("wipe of an empty pad", q.wipe(), 0);
        q.say('a');
        CHECK.due("wipe of one sign", q.wipe(), 1);
        CHECK.due("wipe of what is wiped", q.wipe(), 0);
        Check.pad(q, "y".repeat(60));
        CHECK.due("wipe of a full pad", q.wipe(), 60);
        CHECK.due("say behind that", q.say('z'), 1);
        CHECK.due("its sign", q.read(0), 'z');
        CHECK.due("no old sign", q.read(1), NONE);
    }

    private static void faultOf(String told, int want) {
        CHECK.due("fault() of " + told, Check.pad(new QuotedLayers(), told).fault(), want);
    }

    private static void markMayBeNone() {
        CHECK.sentence("4: a MARK (- : none)");
        faultOf("-0", NONE);
        faultOf("-1\\", NONE);
        faultOf("-3%", NONE);
        CHECK.due("about of -1", Check.withLayers("-1\\").about(0, 0), NONE);
        CHECK.due("about of .1", Check.withLayers(".1\\").about(0, 0), '.');
    }

    private static void ways() {
        CHECK.sentence("4: a digit, the WAY: 0, 1, 2, 3");
        for (char way = 33; way <= 126; way++) {
            boolean is = way >= '0' && way <= '3';
            int more = way == '1' || way == '3' ? 2 : NONE;
            faultOf("\"" + way, is ? more : 1);
            faultOf("\"" + way + "\\", is ? (way == '2' ? 2 : NONE) : 1);
        }
    }

    private static void wayTwoNeedsMark() {
        CHECK.sentence("4: WAY 2: not with - as the MARK");
        faultOf("-2", 1);
        faultOf("-2x", 1);
        faultOf(".2", NONE);
        faultOf(",2", NONE);
    }

    private static void heldAreSixAtMost() {
        CHECK.sentence("4: HELD signs, 6 at most");
        String[] begun = {"\"0", "-0", "\"1\\", "-1\\", "\"3%", "-3%"};
        for (String layer : begun) {
            faultOf(layer, NONE);
            faultOf(layer + "g", NONE);
            faultOf(layer + "ghijk", NONE);
            faultOf(layer + "ghijkl", NONE);
            faultOf(layer + "ghijklm", layer.length() + 6);
            faultOf(layer + "ghijklmn", layer.length() + 6);
            faultOf(layer + "ghijklg", layer.length() + 6);
        }
        faultOf("\"1\\ghijkl" + "x".repeat(51), 9);
    }

    private static void wayTwoHoldsNone() {
        CHECK.sentence("4: by WAY 2 no HELD signs");
        faultOf("\"2", NONE);
        faultOf("\"2g", 2);
        faultOf("\"2gh", 2);
        faultOf("\"2\"", 2);
    }

    private static void signsThatAreMarks() {
        CHECK.sentence("4: a MARK is no digit, no letter a to f");
        for (char sign = 33; sign <= 126; sign++) {
            faultOf(sign + "0", Check.isDigitToSixteen(sign) ? 0 : NONE);
        }
    }

    private static void signsThatAreMasks() {
        CHECK.sentence("4: a MASK is no digit, no letter a to f, not -");
        for (char sign = 33; sign <= 126; sign++) {
            int want = Check.isDigitToSixteen(sign) || sign == '-' ? 2 : NONE;
            faultOf("-1" + sign, want);
            faultOf("-3" + sign, want);
            faultOf("\"1" + sign, sign == '"' ? 2 : want);
            faultOf("\"3" + sign, sign == '"' ? 2 : want);
        }
    }

    private static void signsThatAreHeld() {
        CHECK.sentence("4: a HELD sign is no digit, no letter a to f, not -");
        for (char sign = 33; sign <= 126; sign++) {
            boolean bad = Check.isDigitToSixteen(sign) || sign == '-';
            faultOf("-0" + sign, bad ? 2 : NONE);
            faultOf("\"0" + sign, bad || sign == '"' ? 2 : NONE);
            faultOf("-1z" + sign, bad || sign == 'z' ? 3 : NONE);
            faultOf("\"3%ghijk" + sign, bad || "\"%ghijk".indexOf(sign) >= 0 ? 8 : NONE);
        }
    }

    private static void unlikeEachOther() {
        CHECK.sentence("4: MARK, MASK and HELD ones are unlike each other");
        String told = "\"1\\ghijkl";
        for (int late = 2; late < told.length(); late++) {
            for (int early = 0; early < late; early++) {
                if (early != 1) {
                    faultOf(told.substring(0, late) + told.charAt(early) + told.substring(late + 1), late);
                }
            }
        }
        faultOf("\"0\"", 2);
        faultOf("\"0g\"", 3);
        faultOf("-0gg", 3);
        faultOf("-0ghijkg", 7);
        faultOf("\"0gG", NONE);
    }

    private static void moreMustCome() {
        CHECK.sentence("4: THE FAULT: the number of signs, if more must come");
        faultOf("", 0);
        faultOf("\"", 1);
        faultOf("-", 1);
        faultOf("\"1", 2);
        faultOf("-1", 2);
        faultOf("\"3", 2);
        faultOf("-3", 2);
        faultOf("\"0", NONE);
        faultOf("\"2", NONE);
    }

    private static void firstOfSeveralFaults() {
        CHECK.sentence("4: THE FAULT: the place of the first sign that can not stand there");
        faultOf("0", 0);
        faultOf("a9--", 0);
        faultOf("\"9--", 1);
        faultOf("\"1--", 2);
        faultOf("\"1\\--", 3);
        faultOf("\"1\\g--", 4);
        faultOf("\"1\\ghijkl--", 9);
        faultOf("0".repeat(60), 0);
        faultOf("\"".repeat(60), 1);
    }

    private static void noFault() {
        CHECK.sentence("4: THE FAULT as a LAYER; NONE");
        faultOf("-0", NONE);
        QuotedLayers q = Check.pad(new QuotedLayers(), "'2");
        CHECK.due("fault()", q.fault(), NONE);
        CHECK.due("the pad stays", q.told(0), 2);
        q.say('x');
        CHECK.due("fault() with a sign more", q.fault(), 2);
    }

    private static void layersAreFive() {
        CHECK.sentence("5: LAYERS 0 to 4; UNKNOWN");
        for (int layer = 0; layer <= 4; layer++) {
            QuotedLayers q = Check.pad(new QuotedLayers(), "'2");
            CHECK.due("layer(" + layer + ")", q.layer(layer), 0);
            for (int other = 0; other <= 4; other++) {
                CHECK.due("the mark of " + other, q.about(other, 0), other == layer ? '\'' : NONE);
            }
        }
        QuotedLayers q = Check.pad(new QuotedLayers(), "'2");
        for (int layer : new int[] {-1, 5, 6, '0', Integer.MIN_VALUE, Integer.MAX_VALUE}) {
            CHECK.due("layer(" + layer + ")", q.layer(layer), UNKNOWN);
        }
        for (int layer : Check.wrapped(1)) {
            CHECK.due("layer(" + layer + ")", q.layer(layer), UNKNOWN);
        }
        CHECK.due("layer(0) behind that", q.layer(0), 0);
    }

    private static void layerEmptiesPad() {
        CHECK.sentence("5: the PAD becomes a LAYER (it is empty then)");
        QuotedLayers q = Check.pad(new QuotedLayers(), "\"1\\ghijkl");
        CHECK.due("layer(4)", q.layer(4), 6);
        CHECK.due("told(0)", q.told(0), 0);
        CHECK.due("fault()", q.fault(), 0);
        CHECK.due("wipe()", q.wipe(), 0);
        CHECK.due("say(33)", q.say(33), 1);
        aboutAll(q, 4, '"', 1, '\\', 'g', 'h', 'i', 'j', 'k', 'l');
    }

    private static void layerRefused() {
        CHECK.sentence("5: the PAD stays when the call is refused; UNKNOWN; NO: there is a FAULT");
        QuotedLayers q = Check.withLayers("'2");
        String[] faulty = {"", "\"", "-2", "\"1", "\"1\\ghijklm", "\"1\"", "00"};
        for (String told : faulty) {
            Check.pad(q, told);
            CHECK.due("layer(0) of " + told, q.layer(0), NO);
            CHECK.due("layer(5) of " + told, q.layer(5), UNKNOWN);
            CHECK.due("layer(-1) of " + told, q.layer(-1), UNKNOWN);
            CHECK.due("told(0)", q.told(0), told.length());
            aboutAll(q, 0, '\'', 2);
        }
        Check.pad(q, "-0");
        CHECK.due("layer(5) without a fault", q.layer(5), UNKNOWN);
        CHECK.due("told(0)", q.told(0), 2);
        CHECK.due("read(0)", q.read(0), '-');
    }

    private static void layerAnswersHeld() {
        CHECK.sentence("5: how many HELD signs");
        for (int held = 0; held <= 6; held++) {
            String signs = "ghijkl".substring(0, held);
            CHECK.due("way 0, " + held, Check.pad(new QuotedLayers(), "-0" + signs).layer(0), held);
            CHECK.due("way 1, " + held, Check.pad(new QuotedLayers(), "-1\\" + signs).layer(0), held);
            CHECK.due("way 3, " + held, Check.pad(new QuotedLayers(), "'3%" + signs).layer(0), held);
        }
        CHECK.due("way 2", Check.pad(new QuotedLayers(), "'2").layer(0), 0);
    }

    private static void aboutAll(QuotedLayers q, int layer, int... want) {
        for (int what = 0; what <= 8; what++) {
            int due = what < want.length ? want[what] : NONE;
            CHECK.due("about(" + layer + ", " + what + ")", q.about(layer, what), due);
        }
    }

    private static void aboutParts() {
        CHECK.sentence("6: 0 MARK (NONE), 1 WAY, 2 MASK (NONE), 3 and on HELD signs (NONE: not so many)");
        QuotedLayers q = Check.withLayers("!0~", "-1!ghijkl", "~2", "-3~z", "z0ghijkl");
        aboutAll(q, 0, '!', 0, NONE, '~');
        aboutAll(q, 1, NONE, 1, '!', 'g', 'h', 'i', 'j', 'k', 'l');
        aboutAll(q, 2, '~', 2, NONE);
        aboutAll(q, 3, NONE, 3, '~', 'z');
        aboutAll(q, 4, 'z', 0, NONE, 'g', 'h', 'i', 'j', 'k', 'l');
        Check.pad(q, "-0").layer(1);
        aboutAll(q, 1, NONE, 0);
    }

    private static void aboutRefused() {
        CHECK.sentence("6: UNKNOWN; OUTSIDE: 0 to 8");
        QuotedLayers q = Check.withLayers("\"1\\<");
        int[] outside = {-1, 9, 10, -6, Integer.MIN_VALUE, Integer.MAX_VALUE};
        for (int what : outside) {
            CHECK.due("about(0, " + what + ")", q.about(0, what), OUTSIDE);
            CHECK.due("about(4, " + what + ")", q.about(4, what), OUTSIDE);
            CHECK.due("about(5, " + what + ")", q.about(5, what), UNKNOWN);
            CHECK.due("about(-1, " + what + ")", q.about(-1, what), UNKNOWN);
        }
        for (int wrapped : Check.wrapped(0)) {
            CHECK.due("about(0, " + wrapped + ")", q.about(0, wrapped), OUTSIDE);
            CHECK.due("about(" + wrapped + ", 0)", q.about(wrapped, 0), UNKNOWN);
        }
        CHECK.due("about(greatest, 8)", q.about(Integer.MAX_VALUE, 8), UNKNOWN);
        CHECK.due("about(least, 0)", q.about(Integer.MIN_VALUE, 0), UNKNOWN);
    }
}
