/** Runs of 512 calls, made by a counter, on the class and on the Model side by side. */
public final class ModelTest {
    private static final Check CHECK = new Check("ModelTest");
    private static final int RUNS = 1500, CALLS = 512;
    private static final int[] EXTREMES = {Integer.MIN_VALUE, Integer.MIN_VALUE + 1, -1000, -8, -7, -6, -5, -4, -3, -2,
        -1, 0, 1, 2, 3, 4, 5, 6, 8, 9, 10, 14, 15, 19, 20, 31, 32, 33, 60, 93, 94, 126, 127, 399, 400, 401, 1000,
        Integer.MAX_VALUE - 1, Integer.MAX_VALUE};

    private static long seed = 20261119;
    private static QuotedLayers q;
    private static Model m;

    public static void main(String[] args) {
        for (int run = 0; run < RUNS; run++) {
            q = new QuotedLayers();
            m = new Model();
            String signs = alphabet();
            int calls = begin(run, signs);
            while (calls < CALLS - 70) {
                calls += step(run, signs);
            }
        }
        CHECK.end();
    }

    private static int below(int bound) {
        seed = seed * 6364136223846793005L + 1442695040888963407L;
        return (int) ((seed >>> 33) % bound);
    }

    /** Few signs, so that marks, masks and held ones of several layers meet. */
    private static String alphabet() {
        return unlike("\"'\\%$&<~!-xyzAFgG", 3 + below(6));
    }

    private static String unlike(String signs, int most) {
        StringBuilder left = new StringBuilder(signs);
        StringBuilder b = new StringBuilder();
        while (b.length() < most && left.length() > 0) {
            int i = below(left.length());
            b.append(left.charAt(i));
            left.deleteCharAt(i);
        }
        return b.toString();
    }

    /** Most runs begin with layers and a chain of them; the others find what a new object answers. */
    private static int begin(int run, String signs) {
        if (below(8) == 0) {
            return 0;
        }
        int calls = 0;
        for (int i = 0; i < 6; i++) {
            calls += tellLayer(run, signs);
        }
        return calls + chainSome(run, 1 + below(5));
    }

    private static int chainSome(int run, int most) {
        for (int i = 0; i < most; i++) {
            int layer = below(5);
            due(run, "chain", layer, q.chain(layer), m.chain(layer));
        }
        return most;
    }

    private static char oneOf(String signs) {
        return signs.charAt(below(signs.length()));
    }

    private static int step(int run, String signs) {
        switch (below(9)) {
            case 0:
                return tellLayer(run, signs);
            case 1:
                return tellText(run, signs);
            case 2:
                return tellFound(run, signs);
            case 3:
                return tellBehind(run, signs);
            case 4:
                return chainSome(run, 1 + below(3));
            case 5:
                if (below(4) == 0) {
                    due(run, "unchain", 0, q.unchain(), m.unchain());
                    return 1;
                }
                return anyCall(run, below(23), below(40) - 5, below(60) - 5);
            case 6:
                return tellSpillRow(run, signs);
            case 7:
                return anyCall(run, below(23), EXTREMES[below(EXTREMES.length)], EXTREMES[below(EXTREMES.length)]);
            default:
                return anyCall(run, below(23), below(7) - 1, below(7) - 2);
        }
    }

    private static void due(int run, String call, int arg, int got, int want) {
        CHECK.due("run " + run + " " + call + "(" + arg + ")", got, want);
    }

    private static void pad(int run, String told) {
        due(run, "wipe", 0, q.wipe(), m.wipe());
        for (char c : told.toCharArray()) {
            due(run, "say", c, q.say(c), m.say(c));
        }
    }

    private static String some(String signs, int most) {
        StringBuilder b = new StringBuilder();
        int size = below(most + 1);
        for (int i = 0; i < size; i++) {
            b.append(oneOf(signs));
        }
        return b.toString();
    }

    private static int tellLayer(int run, String signs) {
        String told;
        if (below(5) == 0) {
            told = "" + oneOf("-0af" + signs) + oneOf("01234-") + some(signs + "-0f", 8);
        } else {
            char way = oneOf("011222333");
            String own = unlike(signs.replace("-", ""), 1 + below(5));
            String rest = own.substring(1);
            told = way != '2' && below(3) == 0 ? "-" + own.charAt(0) : own.substring(0, 1);
            told = told.substring(0, 1) + way + (way == '2' ? "" : told.substring(1) + rest);
        }
        pad(run, told);
        due(run, "fault", 0, q.fault(), m.fault());
        int layer = below(5);
        due(run, "layer", layer, q.layer(layer), m.layer(layer));
        for (int what = 0; what <= 8; what++) {
            due(run, "about", what, q.about(layer, what), m.about(layer, what));
        }
        return told.length() + 12;
    }

    private static int tellText(int run, String signs) {
        pad(run, below(3) == 0 ? full(signs) : some(signs + "2x", 13));
        due(run, "text", 0, q.text(), m.text());
        due(run, "barred", 0, q.barred(), m.barred());
        due(run, "order", -1, q.order(-1), m.order(-1));
        for (int i = 0; i < 5; i++) {
            due(run, "order", i, q.order(i), m.order(i));
            due(run, "spills", i, q.spills(i), m.spills(i));
            due(run, "twice", i, q.twice(i), m.twice(i));
        }
        return 32;
    }

    /** Twelve signs of one or two kinds: the longest way through a chain. */
    private static String full(String signs) {
        String two = "" + oneOf(signs) + oneOf(signs);
        StringBuilder b = new StringBuilder();
        while (b.length() < 12) {
            b.append(oneOf(two));
        }
        return b.toString();
    }

    private static int tellFound(int run, String signs) {
        pad(run, some(signs + signs + "235679", 20));
        return readAll(run) + 22;
    }

    private static int readAll(int run) {
        for (int what = -4; what < 4; what++) {
            due(run, "read", what, q.read(what), m.read(what));
        }
        for (int i = -1; i < 3; i++) {
            due(run, "rows", i, q.rows(i), m.rows(i));
        }
        return 12;
    }

    /** What stands behind the chain goes on the pad, as it is or with one sign changed. */
    private static int tellBehind(int run, String signs) {
        int k = m.told(2);
        int size = m.behind(k, -1);
        due(run, "behind -1", k, q.behind(k, -1), size);
        StringBuilder b = new StringBuilder();
        for (int i = 0; i < size && i < 40; i++) {
            int sign = m.behind(k, i);
            due(run, "behind " + i, k, q.behind(k, i), sign);
            b.append((char) sign);
        }
        if (below(2) == 0 && b.length() > 0) {
            b.setCharAt(below(b.length()), oneOf(signs + "25"));
        }
        pad(run, b.toString());
        return readAll(run) + 2 * b.length() + 2;
    }

    private static int tellSpillRow(int run, String signs) {
        pad(run, below(6) == 0 ? some(signs, 6) : unlike(signs + "25", 1 + below(5)));
        int place = below(5);
        for (int i = -1; i < 3; i++) {
            due(run, "spill " + i, place, q.spill(place, i), m.spill(place, i));
        }
        return 12;
    }

    private static int anyCall(int run, int call, int a, int b) {
        switch (call) {
            case 0: due(run, "say", a, q.say(a), m.say(a)); break;
            case 1: due(run, "wipe", a, q.wipe(), m.wipe()); break;
            case 2: due(run, "fault", a, q.fault(), m.fault()); break;
            case 3: due(run, "layer", a, q.layer(a), m.layer(a)); break;
            case 4: due(run, "about " + b, a, q.about(a, b), m.about(a, b)); break;
            case 5: due(run, "chain", a, q.chain(a), m.chain(a)); break;
            case 6: due(run, "safe", b, q.safe(b), m.safe(b)); break;
            case 7: due(run, "text", a, q.text(), m.text()); break;
            case 8: due(run, "behind " + b, a, q.behind(a, b), m.behind(a, b)); break;
            case 9: due(run, "barred", a, q.barred(), m.barred()); break;
            case 10: due(run, "grows", a, q.grows(a), m.grows(a)); break;
            case 11: due(run, "safe", a, q.safe(a), m.safe(a)); break;
            case 12: due(run, "dearest", a, q.dearest(), m.dearest()); break;
            case 13: due(run, "read", a, q.read(a), m.read(a)); break;
            case 14: due(run, "spills", a, q.spills(a), m.spills(a)); break;
            case 15: due(run, "spill " + b, a, q.spill(a, b), m.spill(a, b)); break;
            case 16: due(run, "twice", a, q.twice(a), m.twice(a)); break;
            case 17: due(run, "rows", a, q.rows(a), m.rows(a)); break;
            case 18: due(run, "order", a, q.order(a), m.order(a)); break;
            case 19: due(run, "image", a, q.image(a), m.image(a)); break;
            case 20: due(run, "restore", a, q.restore(a), m.restore(a)); break;
            case 21: due(run, "told", a, q.told(a), m.told(a)); break;
            default: due(run, "grows", 33 + (a & 63), q.grows(33 + (a & 63)), m.grows(33 + (a & 63))); break;
        }
        return 1;
    }
}
