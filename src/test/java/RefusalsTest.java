/** Calls that are refused, and those that only ask, change nothing. */
public final class RefusalsTest {
    private static final Check CHECK = new Check("RefusalsTest");
    private static final int[] WRONG = {Integer.MIN_VALUE, -1000, -2, -1, 5, 6, 33, 127, 1000, Integer.MAX_VALUE};

    public static void main(String[] args) {
        for (String pad : new String[] {"", "\"2x", "123456789abcdefghijklmnop", "xy"}) {
            refused(pad);
            asked(pad);
        }
        fullPad();
        CHECK.end();
    }

    private static QuotedLayers start(String pad) {
        return Check.pad(Check.made("01201", "a\"<", "\"1\\<", "'2", "$0&"), pad);
    }

    private static void refused(String pad) {
        QuotedLayers q = start(pad);
        String before = Check.state(q);
        for (int wrong : WRONG) {
            if (wrong < 33 || wrong > 126) {
                CHECK.due("say", q.say(wrong), QuotedLayers.OUTSIDE);
                CHECK.due("grows", q.grows(wrong), QuotedLayers.OUTSIDE);
            }
            CHECK.due("layer", q.layer(wrong), QuotedLayers.UNKNOWN);
            CHECK.due("about", q.about(wrong, wrong), QuotedLayers.UNKNOWN);
            CHECK.due("chain", q.chain(wrong), QuotedLayers.UNKNOWN);
            CHECK.due("image", q.image(wrong), QuotedLayers.OUTSIDE);
            CHECK.due("restore", q.restore(wrong), QuotedLayers.OUTSIDE);
            CHECK.due("spills", q.spills(wrong), QuotedLayers.OUTSIDE);
            CHECK.due("spill", q.spill(wrong, wrong), QuotedLayers.OUTSIDE);
            CHECK.due("twice", q.twice(wrong), QuotedLayers.OUTSIDE);
        }
        CHECK.due("chain when full", q.chain(0), QuotedLayers.FULL);
        CHECK.due("restore of none", q.restore(0), QuotedLayers.STATE);
        CHECK.due("layer with a fault", q.layer(0), QuotedLayers.NO);
        if (pad.isEmpty() || pad.length() > 12) {
            CHECK.due("text", q.text(), QuotedLayers.NO);
        }
        CHECK.due("the state behind refused calls with " + pad, Check.state(q), before);
    }

    private static void asked(String pad) {
        QuotedLayers q = start(pad);
        String before = Check.state(q);
        for (int i = -3; i < 8; i++) {
            q.behind(i, 0);
            q.behind(2, i);
            q.barred();
            q.grows(33 + i);
            q.safe(i);
            q.dearest();
            q.read(i);
            q.spills(i);
            q.spill(i, 0);
            q.twice(i);
            q.rows(i);
            q.order(i);
            q.fault();
        }
        CHECK.due("the state behind asking calls with " + pad, Check.state(q), before);
        CHECK.due("the chain is whole still", q.told(14), 1);
    }

    private static void fullPad() {
        QuotedLayers q = new QuotedLayers();
        for (int i = 0; i < 60; i++) {
            q.say('y');
        }
        String before = Check.state(q);
        CHECK.due("say on a full pad", q.say('z'), QuotedLayers.FULL);
        CHECK.due("text of a full pad", q.text(), QuotedLayers.NO);
        CHECK.due("layer of a full pad", q.layer(0), QuotedLayers.NO);
        CHECK.due("the state of a full pad", Check.state(q), before);
        CHECK.due("its last sign", q.read(59), 'y');
    }
}
