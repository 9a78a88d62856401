import java.util.ArrayList;
import java.util.HashSet;
import java.util.List;

/**
 * The document once more, told as plainly as the Java library allows: texts are Strings, a refused way
 * through a chain is null, and nothing is held that could be looked up anew.
 */
final class Model {
    static final int NONE = -6, UNKNOWN = -1, OUTSIDE = -2, STATE = -3, FULL = -4, NO = -5, LONG = -7;
    private static final String TOO_LONG = "(too long)";

    private String pad = "";
    private String text = "x";
    private String[] layers = {"-0", "-0", "-0", "-0", "-0"};
    private List<Integer> chain = new ArrayList<>();
    private final Object[][] images = new Object[2][];

    int say(int sign) {
        if (sign < 33 || sign > 126) {
            return OUTSIDE;
        }
        if (pad.length() == 60) {
            return FULL;
        }
        pad += (char) sign;
        return pad.length();
    }

    int wipe() {
        int n = pad.length();
        pad = "";
        return n;
    }

    int fault() {
        for (int n = 0; n <= pad.length(); n++) {
            if (!pad.substring(0, n).matches("([^0-9a-f]([0-3].*)?)?")) {
                return n - 1;
            }
            if (n > 0 && !mayBegin(pad.substring(0, n))) {
                return n - 1;
            }
        }
        boolean whole = pad.length() >= 2 && (maskOf(pad) != 1 || pad.length() > 2);
        return whole ? NONE : pad.length();
    }

    /** 1 if the way of a told layer has a mask. */
    private static int maskOf(String told) {
        return told.charAt(1) == '1' || told.charAt(1) == '3' ? 1 : 0;
    }

    private static boolean mayBegin(String begun) {
        if (begun.length() < 2) {
            return true;
        }
        if (begun.startsWith("-2")) {
            return false;
        }
        int most = begun.charAt(1) == '2' ? 0 : 6 + maskOf(begun);
        String rest = begun.substring(2);
        if (rest.length() > most || !rest.matches("[^0-9a-f-]*")) {
            return false;
        }
        HashSet<Character> unlike = new HashSet<>();
        unlike.add(begun.charAt(0));
        for (char c : rest.toCharArray()) {
            if (!unlike.add(c)) {
                return false;
            }
        }
        return true;
    }

    int layer(int layer) {
        if (layer < 0 || layer > 4) {
            return UNKNOWN;
        }
        if (fault() != NONE) {
            return NO;
        }
        layers[layer] = pad;
        pad = "";
        return held(layers[layer]).length();
    }

    private static String mark(String layer) {
        return layer.startsWith("-") ? "" : layer.substring(0, 1);
    }

    private static String mask(String layer) {
        return maskOf(layer) == 1 ? layer.substring(2, 3) : "";
    }

    private static String held(String layer) {
        return layer.substring(2 + maskOf(layer));
    }

    int about(int layer, int what) {
        if (layer < 0 || layer > 4) {
            return UNKNOWN;
        }
        if (what < 0 || what > 8) {
            return OUTSIDE;
        }
        String told = layers[layer];
        if (what == 1) {
            return told.charAt(1) - '0';
        }
        String one = what == 0 ? mark(told) : what == 2 ? mask(told) : "";
        if (what >= 3 && held(told).length() > what - 3) {
            one = held(told).substring(what - 3, what - 2);
        }
        return one.isEmpty() ? NONE : one.charAt(0);
    }

    int chain(int layer) {
        if (layer < 0 || layer > 4) {
            return UNKNOWN;
        }
        if (chain.size() == 5) {
            return FULL;
        }
        chain.add(layer);
        return chain.size();
    }

    int unchain() {
        if (chain.isEmpty()) {
            return NO;
        }
        chain.remove(chain.size() - 1);
        return chain.size();
    }

    int text() {
        if (pad.isEmpty() || pad.length() > 12) {
            return NO;
        }
        text = pad;
        pad = "";
        return text.length();
    }

    /** null: it can not be put. */
    private static String put(String layer, String signs) {
        StringBuilder b = new StringBuilder(mark(layer));
        for (char c : signs.toCharArray()) {
            boolean bare = (mark(layer) + mask(layer) + held(layer)).indexOf(c) < 0;
            if (bare) {
                b.append(c);
                continue;
            }
            switch (layer.charAt(1)) {
                case '0':
                    return null;
                case '1':
                    b.append(mask(layer)).append(c);
                    break;
                case '2':
                    b.append(c).append(c);
                    break;
                default:
                    b.append(mask(layer)).append(String.format("%02x", (int) c));
            }
        }
        String all = b + mark(layer);
        return all.length() > 400 ? TOO_LONG : all;
    }

    /** null: it is barred; TOO_LONG: it got too long ahead of that. */
    private String through(String start, List<Integer> row, int forgot) {
        String now = start;
        for (int k = 0; k < row.size(); k++) {
            String layer = layers[row.get(k)];
            if (k == forgot) {
                now = mark(layer) + now + mark(layer);
                now = now.length() > 400 ? TOO_LONG : now;
            } else {
                now = put(layer, now);
            }
            if (now == null || now.equals(TOO_LONG)) {
                return now;
            }
        }
        return now;
    }

    private static int refused(String put) {
        return put == null ? NO : put.equals(TOO_LONG) ? LONG : 0;
    }

    int behind(int k, int i) {
        if (k < 0 || k > chain.size()) {
            return OUTSIDE;
        }
        String put = through(text, chain.subList(0, k), NONE);
        return refused(put) != 0 ? refused(put) : at(put, i);
    }

    private static int at(String signs, int i) {
        return i == -1 ? signs.length() : i >= 0 && i < signs.length() ? signs.charAt(i) : NONE;
    }

    int barred() {
        for (int k = 1; k <= chain.size(); k++) {
            int refused = refused(through(text, chain.subList(0, k), NONE));
            if (refused != 0) {
                return refused == NO ? k - 1 : LONG;
            }
        }
        return NONE;
    }

    private int lone(int sign) {
        String put = through("" + (char) sign, chain, NONE);
        return refused(put) != 0 ? NONE : put.length();
    }

    int grows(int sign) {
        if (sign < 33 || sign > 126) {
            return OUTSIDE;
        }
        return lone(sign) == NONE || lone('x') == NONE ? NONE : lone(sign) - lone('x') + 1;
    }

    int safe(int i) {
        StringBuilder safe = new StringBuilder();
        for (int sign = 33; sign <= 126; sign++) {
            if (grows(sign) == 1) {
                safe.append((char) sign);
            }
        }
        return at(safe.toString(), i);
    }

    int dearest() {
        int dearest = NONE;
        for (int sign = 126; sign >= 33; sign--) {
            boolean counts = lone(sign) != NONE && lone('x') != NONE;
            if (counts && (dearest == NONE || lone(sign) >= lone(dearest))) {
                dearest = sign;
            }
        }
        return dearest;
    }

    /** The text as one layer reads it, or, as an Integer, the first place that does not fit. */
    private static Object take(String layer, String found) {
        String mark = mark(layer);
        if (!found.startsWith(mark)) {
            return 0;
        }
        StringBuilder b = new StringBuilder();
        int i = mark.length();
        while (i < found.length()) {
            String rest = found.substring(i);
            if (!mark.isEmpty() && rest.startsWith(mark)) {
                if (layer.charAt(1) == '2' && rest.startsWith(mark + mark)) {
                    b.append(mark);
                    i += 2;
                    continue;
                }
                return rest.length() == 1 ? b.toString() : (Object) (i + 1);
            }
            if (maskOf(layer) == 1 && rest.startsWith(mask(layer))) {
                boolean ahead = layer.charAt(1) == '1';
                String meant = ahead ? rest.substring(1, Math.min(2, rest.length())) : numbered(rest);
                if (meant.isEmpty()) {
                    return i;
                }
                b.append(meant);
                i += ahead ? 2 : 3;
                continue;
            }
            if (held(layer).indexOf(rest.charAt(0)) >= 0) {
                return i;
            }
            b.append(rest.charAt(0));
            i++;
        }
        return mark.isEmpty() ? b.toString() : (Object) found.length();
    }

    private static String numbered(String rest) {
        if (!rest.matches(".[0-9a-f][0-9a-f].*")) {
            return "";
        }
        int code = Integer.parseInt(rest.substring(1, 3), 16);
        return code < 33 || code > 126 ? "" : "" + (char) code;
    }

    /** The text that comes out, or, as a pair, the place of the row and that in the text there. */
    private Object readBack(String found, List<Integer> row) {
        if (row.isEmpty()) {
            return found;
        }
        int last = row.size() - 1;
        Object taken = take(layers[row.get(last)], found);
        if (taken instanceof Integer) {
            return new int[] {last, (Integer) taken};
        }
        return readBack((String) taken, row.subList(0, last));
    }

    int read(int what) {
        if (pad.isEmpty()) {
            return STATE;
        }
        Object out = readBack(pad, chain);
        if (out instanceof int[]) {
            return what == -1 ? ((int[]) out)[0] : what == -2 ? ((int[]) out)[1] : NONE;
        }
        return what == -3 ? ((String) out).length() : what < 0 ? NONE : at((String) out, what);
    }

    private int outcome(String start, List<Integer> row, int forgot) {
        String put = through(start, row, forgot);
        if (refused(put) != 0) {
            return refused(put);
        }
        Object out = readBack(put, chain);
        return out instanceof int[] ? 2 : out.equals(start) ? 0 : 1;
    }

    int spills(int place) {
        return place < 0 || place >= chain.size() ? OUTSIDE : outcome(text, chain, place);
    }

    int spill(int place, int i) {
        if (place < 0 || place >= chain.size()) {
            return OUTSIDE;
        }
        HashSet<Character> unlike = new HashSet<>();
        for (char c : pad.toCharArray()) {
            unlike.add(c);
        }
        if (pad.isEmpty() || pad.length() > 5 || unlike.size() < pad.length()) {
            return STATE;
        }
        List<String> texts = new ArrayList<>(List.of(""));
        for (int length = 1; length <= 4; length++) {
            List<String> longer = new ArrayList<>();
            for (String t : texts) {
                for (char c : pad.toCharArray()) {
                    longer.add(t + c);
                }
            }
            texts = longer;
            for (String t : texts) {
                if (outcome(t, chain, place) > 0) {
                    return at(t, i);
                }
            }
        }
        return NONE;
    }

    int twice(int place) {
        if (place < 0 || place >= chain.size()) {
            return OUTSIDE;
        }
        List<Integer> row = new ArrayList<>(chain);
        row.add(place, chain.get(place));
        return outcome(text, row, NONE);
    }

    int rows(int i) {
        if (pad.isEmpty()) {
            return STATE;
        }
        List<Integer> found = new ArrayList<>();
        for (int number = 10; number < 2000; number++) {
            String digits = ("" + number).substring(1);
            if (("" + number).startsWith("1") && digits.matches("[0-4]{1,3}") && isFound(digits)) {
                found.add(number);
            }
        }
        return i == -1 ? found.size() : i >= 0 && i < found.size() ? found.get(i) : NONE;
    }

    private boolean isFound(String digits) {
        List<Integer> row = new ArrayList<>();
        for (char c : digits.toCharArray()) {
            if (layers[c - '0'].equals("-0")) {
                return false;
            }
            row.add(c - '0');
        }
        return readBack(pad, row) instanceof String;
    }

    int order(int i) {
        if (chain.isEmpty()) {
            return NONE;
        }
        List<Integer> left = new ArrayList<>();
        for (int k = 0; k < chain.size(); k++) {
            left.add(k);
        }
        List<List<Integer>> orders = new ArrayList<>();
        orders(new ArrayList<>(), left, orders);
        List<Integer> best = null;
        int shortest = NONE;
        for (List<Integer> order : orders) {
            List<Integer> row = new ArrayList<>();
            for (int place : order) {
                row.add(chain.get(place));
            }
            String put = through(text, row, NONE);
            if (refused(put) == 0 && (best == null || put.length() < shortest)) {
                best = order;
                shortest = put.length();
            }
        }
        return i == -1 ? shortest : best != null && i >= 0 && i < best.size() ? best.get(i) : NONE;
    }

    private static void orders(List<Integer> begun, List<Integer> left, List<List<Integer>> all) {
        if (left.isEmpty()) {
            all.add(begun);
        }
        for (Integer place : left) {
            List<Integer> longer = new ArrayList<>(begun);
            longer.add(place);
            List<Integer> rest = new ArrayList<>(left);
            rest.remove(place);
            orders(longer, rest, all);
        }
    }

    int image(int n) {
        if (n < 0 || n > 1) {
            return OUTSIDE;
        }
        images[n] = new Object[] {text, layers.clone(), new ArrayList<>(chain)};
        return 1;
    }

    @SuppressWarnings("unchecked")
    int restore(int n) {
        if (n < 0 || n > 1) {
            return OUTSIDE;
        }
        if (images[n] == null) {
            return STATE;
        }
        text = (String) images[n][0];
        layers = ((String[]) images[n][1]).clone();
        chain = new ArrayList<>((List<Integer>) images[n][2]);
        return 1;
    }

    int told(int what) {
        if (what >= 0 && what <= 2) {
            return what == 0 ? pad.length() : what == 1 ? text.length() : chain.size();
        }
        if (what >= 10 && what <= 14) {
            return what - 10 < chain.size() ? chain.get(what - 10) : NONE;
        }
        return what >= 20 && what <= 31 ? at(text, what - 20) : OUTSIDE;
    }
}
