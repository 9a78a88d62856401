/** What the tests share: answers compared with what is due, and whole texts said at once. */
final class Check {
    private final String test;
    private String sentence = "";
    private int calls = 0;
    private int wrong = 0;

    Check(String test) {
        this.test = test;
    }

    /** What is due from here on is what this sentence of the document asks for. */
    void sentence(String said) {
        sentence = " (" + said + ")";
    }

    void due(String call, long got, long want) {
        compare(call, "" + got, "" + want);
    }

    void due(String call, String got, String want) {
        compare(call, "\"" + got + "\"", "\"" + want + "\"");
    }

    private void compare(String call, String got, String want) {
        calls++;
        if (!got.equals(want)) {
            wrong++;
            System.out.println(test + sentence + ": " + call + " answered " + got + ", due is " + want);
        }
    }

    /** Ends the test's own run of the machine, with exit code 1 if an answer was wrong. */
    void end() {
        System.out.println(test + ": " + calls + " answers, " + wrong + " wrong");
        if (wrong != 0 || calls == 0) {
            System.exit(1);
        }
    }

    static QuotedLayers pad(QuotedLayers q, String signs) {
        q.wipe();
        for (int i = 0; i < signs.length(); i++) {
            q.say(signs.charAt(i));
        }
        return q;
    }

    /** A new object with these layers from 0 on; the chain is empty. */
    static QuotedLayers withLayers(String... told) {
        QuotedLayers q = new QuotedLayers();
        for (int i = 0; i < told.length; i++) {
            pad(q, told[i]).layer(i);
        }
        return q;
    }

    /** The same with the chain as digits and the text. */
    static QuotedLayers made(String chain, String text, String... told) {
        QuotedLayers q = withLayers(told);
        for (int i = 0; i < chain.length(); i++) {
            q.chain(chain.charAt(i) - '0');
        }
        pad(q, text).text();
        return q;
    }

    static String behind(QuotedLayers q, int k) {
        StringBuilder b = new StringBuilder();
        int size = q.behind(k, -1);
        if (size < 0) {
            return "" + size;
        }
        for (int i = 0; i < size; i++) {
            b.append((char) q.behind(k, i));
        }
        return b.toString();
    }

    /** What comes out, or the bad place of the chain and that of the text. */
    static String read(QuotedLayers q, String found) {
        pad(q, found);
        int size = q.read(-3);
        if (size < 0) {
            return q.read(-1) + " at " + q.read(-2);
        }
        StringBuilder b = new StringBuilder();
        for (int i = 0; i < size; i++) {
            b.append((char) q.read(i));
        }
        return b.toString();
    }

    static String spill(QuotedLayers q, String row, int place) {
        pad(q, row);
        int size = q.spill(place, -1);
        StringBuilder b = new StringBuilder();
        if (size < 0) {
            return "" + size;
        }
        for (int i = 0; i < size; i++) {
            b.append((char) q.spill(place, i));
        }
        return b.toString();
    }

    static String rows(QuotedLayers q, String found) {
        pad(q, found);
        int size = q.rows(-1);
        StringBuilder b = new StringBuilder("" + size);
        for (int i = 0; i < size; i++) {
            b.append(' ').append(q.rows(i));
        }
        return b.toString();
    }

    static String order(QuotedLayers q) {
        int size = q.order(-1);
        StringBuilder b = new StringBuilder("" + size);
        for (int i = 0; q.order(i) >= 0; i++) {
            b.append(' ').append(q.order(i));
        }
        return b.toString();
    }

    static boolean isDigitToSixteen(char sign) {
        return sign >= '0' && sign <= '9' || sign >= 'a' && sign <= 'f';
    }

    /** Numbers that are this one again if no more than their last bits are looked at. */
    static int[] wrapped(int number) {
        return new int[] {number + 256, number - 256, number + 65536, number - 65536, number + Integer.MIN_VALUE};
    }

    /** All that can be told of an object, its images and the signs of its pad too; it is changed by that. */
    static String all(QuotedLayers q) {
        StringBuilder b = new StringBuilder(state(q));
        while (q.unchain() >= 0) {
            b.append(' ');
        }
        for (int i = 0; i < q.told(0); i++) {
            b.append(' ').append(q.read(i));
        }
        for (int n = 0; n < 2; n++) {
            b.append(" image ").append(q.restore(n) == 1 ? state(q) : "not kept");
        }
        return b.toString();
    }

    /** All that can be told of an object without changing it, but for the images. */
    static String state(QuotedLayers q) {
        StringBuilder b = new StringBuilder();
        for (int layer = 0; layer < 5; layer++) {
            for (int what = 0; what <= 8; what++) {
                b.append(q.about(layer, what)).append(' ');
            }
        }
        for (int what = 0; what < 32; what++) {
            b.append(q.told(what)).append(' ');
        }
        // With an empty chain the pad is read back as it is; else its signs are not told by any call.
        return b.append(q.fault()).append(' ').append(q.read(-3)).append(' ').append(q.read(0)).toString();
    }
}
