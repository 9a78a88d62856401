import java.util.function.ToIntFunction;

/** Calls that are refused, and those that only ask, change nothing. */
public final class RefusalsTest {
    private static final Check CHECK = new Check("RefusalsTest");
    private static final int[] WRONG = {Integer.MIN_VALUE, -1000, -2, -1, 5, 6, 33, 127, 1000, Integer.MAX_VALUE};

    public static void main(String[] args) {
        for (String pad : new String[] {"", "\"2x", "123456789abcdefghijklmnop", "xy"}) {
            refused(pad);
            asked(pad);
        }
        fullPad();
        refusedOnPads();
        refusedChains();
        refusedTexts();
        refusedPlaces();
        refusedImages();
        CHECK.end();
    }

    private static QuotedLayers start(String pad) {
        return Check.pad(Check.made("01201", "a\"<", "\"1\\<", "'2", "$0&"), pad);
    }

    private static void refused(String pad) {
        QuotedLayers q = start(pad);
        String before = Check.state(q);
        for (int wrong : WRONG) {
            if (wrong < 33 || wrong > 126) {
                CHECK.due("say", q.say(wrong), QuotedLayers.OUTSIDE);
                CHECK.due("grows", q.grows(wrong), QuotedLayers.OUTSIDE);
            }
            CHECK.due("layer", q.layer(wrong), QuotedLayers.UNKNOWN);
            CHECK.due("about", q.about(wrong, wrong), QuotedLayers.UNKNOWN);
            CHECK.due("chain", q.chain(wrong), QuotedLayers.UNKNOWN);
            CHECK.due("image", q.image(wrong), QuotedLayers.OUTSIDE);
            CHECK.due("restore", q.restore(wrong), QuotedLayers.OUTSIDE);
            CHECK.due("spills", q.spills(wrong), QuotedLayers.OUTSIDE);
            CHECK.due("spill", q.spill(wrong, wrong), QuotedLayers.OUTSIDE);
            CHECK.due("twice", q.twice(wrong), QuotedLayers.OUTSIDE);
        }
        CHECK.due("chain when full", q.chain(0), QuotedLayers.FULL);
        CHECK.due("restore of none", q.restore(0), QuotedLayers.STATE);
        CHECK.due("layer with a fault", q.layer(0), QuotedLayers.NO);
        if (pad.isEmpty() || pad.length() > 12) {
            CHECK.due("text", q.text(), QuotedLayers.NO);
        }
        CHECK.due("the state behind refused calls with " + pad, Check.state(q), before);
    }

    private static void asked(String pad) {
        QuotedLayers q = start(pad);
        String before = Check.state(q);
        for (int i = -3; i < 8; i++) {
            q.behind(i, 0);
            q.behind(2, i);
            q.barred();
            q.grows(33 + i);
            q.safe(i);
            q.dearest();
            q.read(i);
            q.spills(i);
            q.spill(i, 0);
            q.twice(i);
            q.rows(i);
            q.order(i);
            q.fault();
        }
        CHECK.due("the state behind asking calls with " + pad, Check.state(q), before);
        CHECK.due("the chain is whole still", q.told(14), 1);
    }

    private static void fullPad() {
        QuotedLayers q = new QuotedLayers();
        for (int i = 0; i < 60; i++) {
            q.say('y');
        }
        String before = Check.state(q);
        CHECK.due("say on a full pad", q.say('z'), QuotedLayers.FULL);
        CHECK.due("text of a full pad", q.text(), QuotedLayers.NO);
        CHECK.due("layer of a full pad", q.layer(0), QuotedLayers.NO);
        CHECK.due("the state of a full pad", Check.state(q), before);
        CHECK.due("its last sign", q.read(59), 'y');
    }

    /** An object with both images kept, each unlike what is now. */
    private static QuotedLayers full(String chain, String text, String pad) {
        QuotedLayers q = Check.made("4", "kept", "-0%", "-1&", "$2");
        q.image(1);
        q.chain(2);
        Check.pad(q, "'3+!").layer(4);
        q.image(0);
        for (int i = 0; i < 5; i++) {
            q.unchain();
        }
        String[] told = {"\"1\\<!", "'2", "$0&", "-3%", "-1?x"};
        for (int layer = 0; layer < told.length; layer++) {
            Check.pad(q, told[layer]).layer(layer);
        }
        for (int i = 0; i < chain.length(); i++) {
            q.chain(chain.charAt(i) - '0');
        }
        Check.pad(q, text).text();
        return Check.pad(q, pad);
    }

    /** The refused call is made on one of two objects that are alike; all that can be told is alike behind it. */
    private static void refusal(String call, int want, ToIntFunction<QuotedLayers> refused, String... made) {
        QuotedLayers q = full(made[0], made[1], made[2]);
        CHECK.due(call, refused.applyAsInt(q), want);
        CHECK.due(call + " again", refused.applyAsInt(q), want);
        CHECK.due("all behind " + call, Check.all(q), Check.all(full(made[0], made[1], made[2])));
    }

    private static void refusedOnPads() {
        CHECK.sentence("they change nothing: say, layer, about");
        String sixty = "'1".repeat(30);
        refusal("say(32)", QuotedLayers.OUTSIDE, q -> q.say(32), "01", "y", "abc");
        refusal("say(127)", QuotedLayers.OUTSIDE, q -> q.say(127), "01", "y", "abc");
        refusal("say(33) when full", QuotedLayers.FULL, q -> q.say(33), "01", "y", sixty);
        refusal("layer(5)", QuotedLayers.UNKNOWN, q -> q.layer(5), "01", "y", "'2");
        refusal("layer(-1)", QuotedLayers.UNKNOWN, q -> q.layer(-1), "01", "y", "'2");
        refusal("layer(0) of an empty pad", QuotedLayers.NO, q -> q.layer(0), "01", "y", "");
        refusal("layer(0) that wants more", QuotedLayers.NO, q -> q.layer(0), "01", "y", "\"1");
        refusal("layer(0) that has too much", QuotedLayers.NO, q -> q.layer(0), "01", "y", "-0ghijklm");
        refusal("layer(0) of a full pad", QuotedLayers.NO, q -> q.layer(0), "01", "y", sixty);
        refusal("about(5, 0)", QuotedLayers.UNKNOWN, q -> q.about(5, 0), "01", "y", "abc");
        refusal("about(0, 9)", QuotedLayers.OUTSIDE, q -> q.about(0, 9), "01", "y", "abc");
    }

    private static void refusedChains() {
        CHECK.sentence("they change nothing: chain, unchain, text");
        refusal("chain(5)", QuotedLayers.UNKNOWN, q -> q.chain(5), "01", "y", "abc");
        refusal("chain(-1)", QuotedLayers.UNKNOWN, q -> q.chain(-1), "", "y", "abc");
        refusal("chain(0) when full", QuotedLayers.FULL, q -> q.chain(0), "12341", "y", "abc");
        refusal("unchain()", QuotedLayers.NO, q -> q.unchain(), "", "y", "abc");
        refusal("text() of an empty pad", QuotedLayers.NO, q -> q.text(), "01", "yz", "");
        refusal("text() of thirteen", QuotedLayers.NO, q -> q.text(), "01", "yz", "123456789abcd");
        refusal("text() of sixty", QuotedLayers.NO, q -> q.text(), "01", "yz", "x".repeat(60));
    }

    private static void refusedTexts() {
        CHECK.sentence("they change nothing: behind, grows, read, rows");
        String marks = "'".repeat(12);
        refusal("behind(3, 0)", QuotedLayers.OUTSIDE, q -> q.behind(3, 0), "01", "y", "abc");
        refusal("behind(-1, 0)", QuotedLayers.OUTSIDE, q -> q.behind(-1, 0), "01", "y", "abc");
        refusal("behind(5, 0) that is long", QuotedLayers.LONG, q -> q.behind(5, 0), "11111", marks, "abc");
        refusal("barred() that is long", QuotedLayers.LONG, q -> q.barred(), "11111", marks, "abc");
        refusal("behind(2, 0) that is barred", QuotedLayers.NO, q -> q.behind(2, 0), "02", "&", "abc");
        refusal("grows(32)", QuotedLayers.OUTSIDE, q -> q.grows(32), "01", "y", "abc");
        refusal("grows(127)", QuotedLayers.OUTSIDE, q -> q.grows(127), "01", "y", "abc");
        refusal("read(0)", QuotedLayers.STATE, q -> q.read(0), "01", "y", "");
        refusal("rows(0)", QuotedLayers.STATE, q -> q.rows(0), "01", "y", "");
    }

    private static void refusedPlaces() {
        CHECK.sentence("they change nothing: spills, spill, twice");
        String marks = "'".repeat(12);
        refusal("spills(2)", QuotedLayers.OUTSIDE, q -> q.spills(2), "01", "y", "abc");
        refusal("spills(0) that is barred", QuotedLayers.NO, q -> q.spills(0), "02", "&", "abc");
        refusal("spill(2, 0)", QuotedLayers.OUTSIDE, q -> q.spill(2, 0), "01", "y", "abc");
        refusal("spill(0, 0) of an empty pad", QuotedLayers.STATE, q -> q.spill(0, 0), "01", "y", "");
        refusal("spill(0, 0) of six", QuotedLayers.STATE, q -> q.spill(0, 0), "01", "y", "uvwxyz");
        refusal("spill(0, 0) of like ones", QuotedLayers.STATE, q -> q.spill(0, 0), "01", "y", "xx");
        refusal("twice(-1)", QuotedLayers.OUTSIDE, q -> q.twice(-1), "01", "y", "abc");
        refusal("twice(4) that is long", QuotedLayers.LONG, q -> q.twice(4), "11111", marks, "abc");
        refusal("twice(0) that is barred", QuotedLayers.NO, q -> q.twice(0), "02", "&", "abc");
    }

    private static void refusedImages() {
        CHECK.sentence("they change nothing: image, restore, told");
        refusal("image(2)", QuotedLayers.OUTSIDE, q -> q.image(2), "01", "y", "abc");
        refusal("image(-1)", QuotedLayers.OUTSIDE, q -> q.image(-1), "01", "y", "abc");
        refusal("restore(2)", QuotedLayers.OUTSIDE, q -> q.restore(2), "01", "y", "abc");
        refusal("restore(-1)", QuotedLayers.OUTSIDE, q -> q.restore(-1), "01", "y", "abc");
        refusal("told(3)", QuotedLayers.OUTSIDE, q -> q.told(3), "01", "y", "abc");
        for (int n = 0; n < 2; n++) {
            QuotedLayers q = Check.pad(Check.made("01", "y", "$2", "-1&"), "abc");
            q.image(1 - n);
            CHECK.due("restore(" + n + ")", q.restore(n), QuotedLayers.STATE);
            QuotedLayers alike = Check.pad(Check.made("01", "y", "$2", "-1&"), "abc");
            alike.image(1 - n);
            CHECK.due("all behind restore(" + n + ")", Check.all(q), Check.all(alike));
        }
    }
}
