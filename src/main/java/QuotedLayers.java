/**
 * A text that goes through one layer of quoting after another, and is read back from the outside in.
 *
 * Every row that a call needs is made once, with the object, and used again: calls make no objects.
 */
public final class QuotedLayers {
    public static final int NONE = -6, UNKNOWN = -1, OUTSIDE = -2, STATE = -3, FULL = -4, NO = -5, LONG = -7;

    private static final int LEAST_SIGN = 33, GREATEST_SIGN = 126;
    private static final int PAD_MOST = 60, TEXT_MOST = 12, HELD_MOST = 6, BEHIND_MOST = 400;
    private static final int LAYER_COUNT = 5, CHAIN_MOST = 5, IMAGE_COUNT = 2;
    private static final int SPILL_ROW_MOST = 5, SPILL_TEXT_MOST = 4, FOUND_ROW_MOST = 3;
    /* Bounds of the searches: 5 * 5 * 5 * 5 texts or fewer rows of one length, 5 * 4 * 3 * 2 orders. */
    private static final int DIGITS_MOST = 625, ORDERS_MOST = 120;

    private static final int AS_IT_WAS = 0, ANOTHER = 1, NOT_AT_ALL = 2;

    private final Row pad = new Row(PAD_MOST);
    private final Stand stand = new Stand();
    private final Stand firstImage = new Stand();
    private final Stand secondImage = new Stand();
    private final Passage passage = new Passage();

    private final Row trial = new Row(TEXT_MOST);
    private final Row line = new Row(CHAIN_MOST + 1);
    private final Row digits = new Row(CHAIN_MOST);
    private final Row shortestPlaces = new Row(CHAIN_MOST);

    public QuotedLayers() {
    }

    // ---- 1 layers

    public int say(int sign) {
        if (!isSign(sign)) {
            return OUTSIDE;
        }
        if (pad.size() >= PAD_MOST) {
            return FULL;
        }
        pad.add(sign);
        return pad.size();
    }

    public int wipe() {
        int size = pad.size();
        pad.clear();
        return size;
    }

    public int fault() {
        return LayerText.faultIn(pad);
    }

    public int layer(int layer) {
        if (!isLayer(layer)) {
            return UNKNOWN;
        }
        if (LayerText.faultIn(pad) != NONE) {
            return NO;
        }
        Layer changed = stand.layerAt(layer);
        changed.become(pad);
        pad.clear();
        return changed.heldCount();
    }

    public int about(int layer, int what) {
        if (!isLayer(layer)) {
            return UNKNOWN;
        }
        if (what < 0 || what > 2 + HELD_MOST) {
            return OUTSIDE;
        }
        return stand.layerAt(layer).part(what);
    }

    // ---- 2 chains

    public int chain(int layer) {
        if (!isLayer(layer)) {
            return UNKNOWN;
        }
        if (stand.chainLayers.size() >= CHAIN_MOST) {
            return FULL;
        }
        stand.chainLayers.add(layer);
        return stand.chainLayers.size();
    }

    public int unchain() {
        if (stand.chainLayers.size() == 0) {
            return NO;
        }
        stand.chainLayers.dropLast();
        return stand.chainLayers.size();
    }

    public int text() {
        if (pad.size() == 0 || pad.size() > TEXT_MOST) {
            return NO;
        }
        stand.textSigns.copyFrom(pad);
        pad.clear();
        return stand.textSigns.size();
    }

    public int behind(int k, int i) {
        if (k < 0 || k > stand.chainLayers.size()) {
            return OUTSIDE;
        }
        line.copyFirst(stand.chainLayers, k);
        int length = passage.putThrough(stand, line, stand.textSigns, NONE);
        if (length == LONG || length == NO) {
            return length;
        }
        return i == -1 ? length : passage.here().at(i);
    }

    public int barred() {
        int length = passage.putThrough(stand, stand.chainLayers, stand.textSigns, NONE);
        return length == LONG ? LONG : passage.barringPlace();
    }

    public int grows(int sign) {
        if (!isSign(sign)) {
            return OUTSIDE;
        }
        int ofX = lengthOfLone('x');
        int ofSign = lengthOfLone(sign);
        return ofX < 0 || ofSign < 0 ? NONE : ofSign - ofX + 1;
    }

    public int safe(int i) {
        int ofX = lengthOfLone('x');
        int found = 0;
        for (int sign = LEAST_SIGN; ofX >= 0 && sign <= GREATEST_SIGN; sign++) {
            // A sign grows by nothing exactly when it comes out as long as x does.
            if (lengthOfLone(sign) == ofX) {
                if (found == i) {
                    return sign;
                }
                found++;
            }
        }
        return i == -1 ? found : NONE;
    }

    public int dearest() {
        if (lengthOfLone('x') < 0) {
            return NONE;
        }
        int dearest = NONE;
        int most = 0;
        for (int sign = LEAST_SIGN; sign <= GREATEST_SIGN; sign++) {
            int length = lengthOfLone(sign);
            if (length > most) {
                most = length;
                dearest = sign;
            }
        }
        return dearest;
    }

    // ---- 3 read back

    public int read(int what) {
        if (pad.size() == 0) {
            return STATE;
        }
        passage.begin(pad);
        int badPlace = passage.readBack(stand, stand.chainLayers);
        if (what == -1) {
            return badPlace;
        }
        if (what == -2) {
            return passage.badSign();
        }
        if (badPlace != NONE) {
            return NONE;
        }
        return what == -3 ? passage.here().size() : passage.here().at(what);
    }

    public int spills(int place) {
        if (!isPlace(place)) {
            return OUTSIDE;
        }
        return outcome(stand.textSigns, stand.chainLayers, place);
    }

    public int spill(int place, int i) {
        if (!isPlace(place)) {
            return OUTSIDE;
        }
        if (!padIsSpillRow()) {
            return STATE;
        }
        if (!findShortestSpill(place)) {
            return NONE;
        }
        return i == -1 ? trial.size() : trial.at(i);
    }

    public int twice(int place) {
        if (!isPlace(place)) {
            return OUTSIDE;
        }
        line.clear();
        for (int k = 0; k < stand.chainLayers.size(); k++) {
            line.add(stand.chainLayers.at(k));
            if (k == place) {
                line.add(stand.chainLayers.at(k));
            }
        }
        return outcome(stand.textSigns, line, NONE);
    }

    // ---- 4 rows, orders

    public int rows(int i) {
        if (pad.size() == 0) {
            return STATE;
        }
        int found = 0;
        for (int length = 1; length <= FOUND_ROW_MOST; length++) {
            boolean more = digits.fillZeros(length);
            for (int tried = 0; more && tried < DIGITS_MOST; tried++) {
                if (readsPadWholly(digits)) {
                    if (found == i) {
                        return asDigits(digits);
                    }
                    found++;
                }
                more = Counting.nextDigits(digits, LAYER_COUNT);
            }
        }
        return i == -1 ? found : NONE;
    }

    public int order(int i) {
        int shortest = findShortestOrder();
        return i == -1 ? shortest : shortestPlaces.at(i);
    }

    public int image(int n) {
        if (!isImage(n)) {
            return OUTSIDE;
        }
        Stand image = imageAt(n);
        image.copyFrom(stand);
        image.kept = true;
        return 1;
    }

    public int restore(int n) {
        if (!isImage(n)) {
            return OUTSIDE;
        }
        Stand image = imageAt(n);
        if (!image.kept) {
            return STATE;
        }
        stand.copyFrom(image);
        return 1;
    }

    public int told(int what) {
        if (what == 0) {
            return pad.size();
        }
        if (what == 1) {
            return stand.textSigns.size();
        }
        if (what == 2) {
            return stand.chainLayers.size();
        }
        if (what >= 10 && what < 10 + CHAIN_MOST) {
            return stand.chainLayers.at(what - 10);
        }
        if (what >= 20 && what < 20 + TEXT_MOST) {
            return stand.textSigns.at(what - 20);
        }
        return OUTSIDE;
    }

    // ---- what the calls share

    private static boolean isSign(int code) {
        return code >= LEAST_SIGN && code <= GREATEST_SIGN;
    }

    private static boolean isLayer(int layer) {
        return layer >= 0 && layer < LAYER_COUNT;
    }

    private static boolean isImage(int n) {
        return n >= 0 && n < IMAGE_COUNT;
    }

    private Stand imageAt(int n) {
        return n == 0 ? firstImage : secondImage;
    }

    private boolean isPlace(int place) {
        return place >= 0 && place < stand.chainLayers.size();
    }

    /** How many signs a text of this sign alone has behind the chain; below 0 if it can not be put. */
    private int lengthOfLone(int sign) {
        trial.clear();
        trial.add(sign);
        return passage.putThrough(stand, stand.chainLayers, trial, NONE);
    }

    /** The start is put through the layers told and read back by the chain: 0, 1, 2, or LONG or NO. */
    private int outcome(Row start, Row through, int forgot) {
        int length = passage.putThrough(stand, through, start, forgot);
        if (length == LONG || length == NO) {
            return length;
        }
        if (passage.readBack(stand, stand.chainLayers) != NONE) {
            return NOT_AT_ALL;
        }
        return passage.here().sameAs(start) ? AS_IT_WAS : ANOTHER;
    }

    private boolean padIsSpillRow() {
        if (pad.size() < 1 || pad.size() > SPILL_ROW_MOST) {
            return false;
        }
        for (int k = 1; k < pad.size(); k++) {
            if (pad.hasAhead(pad.at(k), k)) {
                return false;
            }
        }
        return true;
    }

    /** Leaves the text in trial. */
    private boolean findShortestSpill(int place) {
        for (int length = 1; length <= SPILL_TEXT_MOST; length++) {
            boolean more = digits.fillZeros(length);
            for (int tried = 0; more && tried < DIGITS_MOST; tried++) {
                spellTrial();
                int out = outcome(trial, stand.chainLayers, place);
                if (out == ANOTHER || out == NOT_AT_ALL) {
                    return true;
                }
                more = Counting.nextDigits(digits, pad.size());
            }
        }
        return false;
    }

    private void spellTrial() {
        trial.clear();
        for (int k = 0; k < digits.size(); k++) {
            trial.add(pad.at(digits.at(k)));
        }
    }

    private boolean readsPadWholly(Row layers) {
        for (int k = 0; k < layers.size(); k++) {
            if (stand.layerAt(layers.at(k)).isAsAtFirst()) {
                return false;
            }
        }
        passage.begin(pad);
        return passage.readBack(stand, layers) == NONE;
    }

    private static int asDigits(Row layers) {
        int number = 1;
        for (int k = 0; k < layers.size(); k++) {
            number = number * 10 + layers.at(k);
        }
        return number;
    }

    /** Leaves the order in shortestPlaces, which stays empty if there is none: how many signs, or NONE. */
    private int findShortestOrder() {
        int shortest = NONE;
        shortestPlaces.clear();
        digits.clear();
        for (int k = 0; k < stand.chainLayers.size(); k++) {
            digits.add(k);
        }
        // A chain without layers has no order, not one without places.
        boolean more = digits.size() > 0;
        for (int tried = 0; more && tried < ORDERS_MOST; tried++) {
            int length = lengthInOrder(digits);
            if (length >= 0 && (shortest == NONE || length < shortest)) {
                shortest = length;
                shortestPlaces.copyFrom(digits);
            }
            more = Counting.nextOrder(digits);
        }
        return shortest;
    }

    private int lengthInOrder(Row order) {
        line.clear();
        for (int k = 0; k < order.size(); k++) {
            line.add(stand.chainLayers.at(order.at(k)));
        }
        return passage.putThrough(stand, line, stand.textSigns, NONE);
    }

    /** A row of numbers up to a bound: signs of a text, layers of a chain, places of an order. */
    private static final class Row {
        private final int[] numbers;
        private int count = 0;
        private boolean over = false;

        Row(int most) {
            numbers = new int[most > 0 ? most : 0];
        }

        int size() {
            return count;
        }

        /** NONE stands at every place that the row does not have, so that a reader may look ahead. */
        int at(int i) {
            return i >= 0 && i < count && i < numbers.length ? numbers[i] : NONE;
        }

        void set(int i, int number) {
            if (i >= 0 && i < count && i < numbers.length) {
                numbers[i] = number;
            }
        }

        /** A number beyond the bound is left out, and the row is over from then on. */
        void add(int number) {
            if (count >= 0 && count < numbers.length) {
                numbers[count] = number;
                count++;
            } else {
                over = true;
            }
        }

        boolean isOver() {
            return over;
        }

        void dropLast() {
            if (count > 0) {
                count--;
            }
        }

        void clear() {
            count = 0;
            over = false;
        }

        void copyFrom(Row other) {
            copyFirst(other, other.size());
        }

        void copyFirst(Row other, int most) {
            clear();
            for (int i = 0; i < most && i < other.size(); i++) {
                add(other.at(i));
            }
        }

        /** True if the zeros fit, which is when there is something to count from. */
        boolean fillZeros(int size) {
            clear();
            for (int i = 0; i < size && !over; i++) {
                add(0);
            }
            return !over;
        }

        boolean sameAs(Row other) {
            if (count != other.size()) {
                return false;
            }
            for (int i = 0; i < count; i++) {
                if (at(i) != other.at(i)) {
                    return false;
                }
            }
            return true;
        }

        /** Whether the number stands at a place ahead of the end told. */
        boolean hasAhead(int number, int end) {
            for (int i = 0; i < end && i < count && i < numbers.length; i++) {
                if (numbers[i] == number) {
                    return true;
                }
            }
            return false;
        }

        void swap(int i, int j) {
            int atI = at(i);
            set(i, at(j));
            set(j, atI);
        }
    }

    /** Steps from one row of digits, or one order, to the next. */
    private static final class Counting {
        private Counting() {
        }

        /** False if these were the last digits; they are all 0 then. */
        static boolean nextDigits(Row row, int base) {
            for (int i = row.size() - 1; i >= 0; i--) {
                if (row.at(i) + 1 < base) {
                    row.set(i, row.at(i) + 1);
                    return true;
                }
                row.set(i, 0);
            }
            return false;
        }

        /** False if this was the last order, the falling one. */
        static boolean nextOrder(Row row) {
            int rise = row.size() - 2;
            while (rise >= 0 && row.at(rise) >= row.at(rise + 1)) {
                rise--;
            }
            if (rise < 0) {
                return false;
            }
            int greater = row.size() - 1;
            while (greater > rise && row.at(greater) <= row.at(rise)) {
                greater--;
            }
            row.swap(rise, greater);
            reverseFrom(row, rise + 1);
            return true;
        }

        private static void reverseFrom(Row row, int start) {
            int left = start;
            int right = row.size() - 1;
            while (left < right) {
                row.swap(left, right);
                left++;
                right--;
            }
        }
    }

    /** A layer as it is told on the pad: its mark, the digit of its way, its mask, its held signs. */
    private static final class LayerText {
        private LayerText() {
        }

        static int faultIn(Row told) {
            if (!canBeMark(told.at(0))) {
                return 0;
            }
            if (!canBeWay(told.at(1), told.at(0))) {
                return 1;
            }
            int way = told.at(1) - '0';
            if (Layer.hasMask(way) && !isNewSign(told, 2)) {
                return 2;
            }
            int firstHeld = firstHeld(way);
            int end = firstHeld + (way == Layer.DOUBLED ? 0 : HELD_MOST);
            for (int i = firstHeld; i < told.size(); i++) {
                if (i >= end || !isNewSign(told, i)) {
                    return i;
                }
            }
            return NONE;
        }

        static int firstHeld(int way) {
            return Layer.hasMask(way) ? 3 : 2;
        }

        private static boolean canBeMark(int sign) {
            return isSign(sign) && Layer.valueOfDigit(sign) < 0;
        }

        private static boolean canBeWay(int sign, int mark) {
            if (sign == '0' + Layer.DOUBLED) {
                return mark != '-';
            }
            return sign >= '0' && sign <= '0' + Layer.NUMBERED;
        }

        private static boolean isNewSign(Row told, int i) {
            int sign = told.at(i);
            return canBeMark(sign) && sign != '-' && !told.hasAhead(sign, i);
        }
    }

    /** Marks round a text, and the way in which signs are masked within them. */
    private static final class Layer {
        static final int UNMASKED = 0, AHEAD = 1, DOUBLED = 2, NUMBERED = 3;

        private int mark = NONE;
        private int way = UNMASKED;
        private int mask = NONE;
        private final Row held = new Row(HELD_MOST);

        Layer() {
        }

        static boolean hasMask(int way) {
            return way == AHEAD || way == NUMBERED;
        }

        /** The told text must be without a fault. */
        void become(Row told) {
            mark = told.at(0) == '-' ? NONE : told.at(0);
            way = told.at(1) - '0';
            mask = hasMask(way) ? told.at(2) : NONE;
            held.clear();
            for (int i = LayerText.firstHeld(way); i < told.size(); i++) {
                held.add(told.at(i));
            }
        }

        void copyFrom(Layer other) {
            mark = other.mark;
            way = other.way;
            mask = other.mask;
            held.copyFrom(other.held);
        }

        int heldCount() {
            return held.size();
        }

        int part(int what) {
            switch (what) {
                case 0:
                    return mark;
                case 1:
                    return way;
                case 2:
                    return mask;
                default:
                    return held.at(what - 3);
            }
        }

        boolean isAsAtFirst() {
            return mark == NONE && way == UNMASKED && held.size() == 0;
        }

        /** How many signs stand behind the layer, or NO or LONG. */
        int put(Row from, Row to, boolean forgets) {
            to.clear();
            addMark(to);
            for (int i = 0; i < from.size(); i++) {
                int sign = from.at(i);
                boolean plain = forgets || !meansSomething(sign);
                if (!plain && way == UNMASKED) {
                    return NO;
                }
                if (plain) {
                    to.add(sign);
                } else {
                    putMasked(sign, to);
                }
            }
            addMark(to);
            // Asked last: a layer that bars the text bars it even where its marks would make it too long.
            return to.isOver() ? LONG : to.size();
        }

        private boolean meansSomething(int sign) {
            return sign == mark || sign == mask || held.hasAhead(sign, HELD_MOST);
        }

        private void addMark(Row to) {
            if (mark != NONE) {
                to.add(mark);
            }
        }

        private void putMasked(int sign, Row to) {
            if (way == NUMBERED) {
                to.add(mask);
                to.add(digitOf(sign >> 4));
                to.add(digitOf(sign & 15));
            } else {
                to.add(way == AHEAD ? mask : mark);
                to.add(sign);
            }
        }

        /** The first place that does not fit, or NONE. */
        int takeOff(Row from, Row to) {
            to.clear();
            if (mark != NONE && from.at(0) != mark) {
                return 0;
            }
            int i = mark == NONE ? 0 : 1;
            for (int taken = 0; i < from.size() && taken < BEHIND_MOST; taken++) {
                if (endsAt(from, i)) {
                    return i + 1 < from.size() ? i + 1 : NONE;
                }
                int meant = meantAt(from, i);
                if (meant == NONE) {
                    return i;
                }
                to.add(meant);
                i += widthOf(from.at(i));
            }
            return mark == NONE ? NONE : from.size();
        }

        private boolean endsAt(Row from, int i) {
            return from.at(i) == mark && !(way == DOUBLED && from.at(i + 1) == mark);
        }

        private int meantAt(Row from, int i) {
            int sign = from.at(i);
            if (sign != mask) {
                return held.hasAhead(sign, HELD_MOST) ? NONE : sign;
            }
            if (way == AHEAD) {
                return from.at(i + 1);
            }
            int high = valueOfDigit(from.at(i + 1));
            int low = valueOfDigit(from.at(i + 2));
            int code = high < 0 || low < 0 ? NONE : high * 16 + low;
            return isSign(code) ? code : NONE;
        }

        /** How many signs stand for one, if the first of them is this and does not end the text. */
        private int widthOf(int sign) {
            if (sign == mask) {
                return way == AHEAD ? 2 : 3;
            }
            return sign == mark ? 2 : 1;
        }

        private static int digitOf(int value) {
            return value < 10 ? '0' + value : 'a' + value - 10;
        }

        /** Below 0 if the sign is no digit of a number to sixteen. */
        static int valueOfDigit(int sign) {
            if (sign >= '0' && sign <= '9') {
                return sign - '0';
            }
            return sign >= 'a' && sign <= 'f' ? sign - 'a' + 10 : -1;
        }
    }

    /** All that an image keeps: the layers, the chain and its text. */
    private static final class Stand {
        private final Layer[] layers = new Layer[LAYER_COUNT];
        private final Layer asAtFirst = new Layer();
        final Row chainLayers = new Row(CHAIN_MOST);
        final Row textSigns = new Row(TEXT_MOST);
        boolean kept = false;

        Stand() {
            for (int i = 0; i < layers.length; i++) {
                layers[i] = new Layer();
            }
            textSigns.add('x');
        }

        Layer layerAt(int layer) {
            if (layer < 0 || layer >= layers.length || layers[layer] == null) {
                return asAtFirst;
            }
            return layers[layer];
        }

        void copyFrom(Stand other) {
            for (int i = 0; i < LAYER_COUNT; i++) {
                layerAt(i).copyFrom(other.layerAt(i));
            }
            chainLayers.copyFrom(other.chainLayers);
            textSigns.copyFrom(other.textSigns);
        }
    }

    /** A text on its way through layers, outward or back. */
    private static final class Passage {
        private final Row first = new Row(BEHIND_MOST);
        private final Row second = new Row(BEHIND_MOST);
        private boolean isInSecond = false;
        private int barringPlace = NONE;
        private int badSign = NONE;

        Passage() {
        }

        /** The text as it is now. */
        Row here() {
            return isInSecond ? second : first;
        }

        private Row there() {
            return isInSecond ? first : second;
        }

        private void step() {
            isInSecond = !isInSecond;
        }

        /** The place at which the last text put was barred, or NONE. */
        int barringPlace() {
            return barringPlace;
        }

        /** The place in the text at which the last reading back ended, or NONE. */
        int badSign() {
            return badSign;
        }

        void begin(Row start) {
            here().copyFrom(start);
        }

        /** How many signs stand behind all the layers told, or NO or LONG. */
        int putThrough(Stand stand, Row layers, Row start, int forgot) {
            barringPlace = NONE;
            here().copyFrom(start);
            for (int k = 0; k < layers.size(); k++) {
                int length = stand.layerAt(layers.at(k)).put(here(), there(), k == forgot);
                if (length == NO) {
                    barringPlace = k;
                }
                if (length == NO || length == LONG) {
                    return length;
                }
                step();
            }
            return here().size();
        }

        /** The place of the first layer, from the last on, that does not fit, or NONE. */
        int readBack(Stand stand, Row layers) {
            badSign = NONE;
            for (int k = layers.size() - 1; k >= 0; k--) {
                badSign = stand.layerAt(layers.at(k)).takeOff(here(), there());
                if (badSign != NONE) {
                    return k;
                }
                step();
            }
            return NONE;
        }
    }
}
