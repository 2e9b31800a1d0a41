/** Names of hosts in many scripts: mapped, composed, cut into labels, packed, unpacked and checked. */
public final class HostNames {
    public static final int BAD = -1;
    public static final int STRICT = 1;
    public static final int OLD = 2;
    public static final int HYPHENS = 4;
    public static final int JOINERS = 8;
    public static final int BIDI = 16;
    public static final int LENGTH = 32;

    private static final int ALL_OPTIONS = 63;
    private static final int TEXT_LIMIT = 48;
    /** OLD style makes two codes of one, and so does taking a pair apart; no code goes through both. */
    private static final int WORK_LIMIT = 2 * TEXT_LIMIT;
    /** A packed code takes 8 digits at most (each step divides by 10 or more), so 48 of them and a tag stay below. */
    private static final int RESULT_LIMIT = 512;
    /** Every code of the text may be a dot. */
    private static final int LABEL_LIMIT = TEXT_LIMIT + 1;
    private static final int PACKED_LABEL_LIMIT = 20;
    private static final int PACKED_WHOLE_LIMIT = 60;

    private static final int GREATEST_CODE = 1114111;
    private static final int HYPHEN = 45;
    private static final int DOT = 46;
    private static final int SOFT_HYPHEN = 173;
    private static final int SHARP_S = 223;
    private static final int FINAL_SIGMA = 962;
    private static final int NON_JOINER = 8204;
    private static final int JOINER = 8205;

    private final Row text;
    private final Row result;
    private final Row mapped;
    private final Row composed;
    private final Row label;
    private final Row unpacked;
    private final Labels found;
    private final Composer composer;
    private final Packer packer;
    private final Checker checker;

    public HostNames() {
        text = new Row(TEXT_LIMIT);
        result = new Row(RESULT_LIMIT);
        mapped = new Row(WORK_LIMIT);
        composed = new Row(WORK_LIMIT);
        label = new Row(WORK_LIMIT);
        unpacked = new Row(TEXT_LIMIT);
        found = new Labels();
        composer = new Composer();
        packer = new Packer();
        checker = new Checker();
    }

    public boolean put(int code) {
        boolean isSurrogate = Codes.isWithin(code, 55296, 57343);
        if (!Codes.isWithin(code, 0, GREATEST_CODE) || isSurrogate) {
            return false;
        }
        return text.add(code);
    }

    public boolean type(long codes, int n) {
        if (n < 1 || n > 8 || text.size() + n > TEXT_LIMIT) {
            return false;
        }
        for (int i = n - 1; i >= 0; i--) {
            text.add((int) (codes >>> (8 * i)) & 255);
        }
        return true;
    }

    public int clear() {
        int typed = text.size();
        text.empty();
        return typed;
    }

    public int process(int options, boolean ascii) {
        if (options < 0 || options > ALL_OPTIONS) {
            return BAD;
        }
        int rules = mapText(options);
        composer.form(mapped, composed);
        cutIntoLabels();
        checkLabels(options);
        rules |= writeResult(ascii, ascii && (options & LENGTH) != 0);
        return rules | found.allRules();
    }

    public int length() {
        return result.size();
    }

    public int at(int i) {
        return result.get(i);
    }

    public int labels() {
        return found.count();
    }

    public int broken(int k) {
        return found.rules(k);
    }

    public int pack() {
        result.empty();
        packer.write(text, result);
        return result.size();
    }

    public boolean unpack() {
        if (!packer.read(text, 0, unpacked)) {
            return false;
        }
        result.empty();
        result.addPart(unpacked, 0, unpacked.size());
        return true;
    }

    public int compose() {
        composer.form(text, result);
        return result.size();
    }

    private static int bit(int rule) {
        return 1 << (rule - 1);
    }

    private int mapText(int options) {
        boolean strict = (options & STRICT) != 0;
        boolean old = (options & OLD) != 0;
        int rules = 0;
        mapped.empty();
        for (int i = 0; i < text.size(); i++) {
            if (!mapCode(text.get(i), strict, old)) {
                rules = bit(1);
            }
        }
        return rules;
    }

    /** Answers whether rule 1 holds for the code. */
    private boolean mapCode(int code, boolean strict, boolean old) {
        if (code == SOFT_HYPHEN) {
            return true;
        }
        if (old && Codes.isOdd(code)) {
            mapOdd(code);
            return true;
        }
        int target = Codes.mappedTo(code);
        mapped.add(target);
        return Codes.isGood(target, strict, false);
    }

    private void mapOdd(int code) {
        if (code == SHARP_S) {
            mapped.add(115);
            mapped.add(115);
        } else if (code == FINAL_SIGMA) {
            mapped.add(963);
        }
    }

    private void cutIntoLabels() {
        found.empty();
        int start = 0;
        for (int i = 0; i <= composed.size(); i++) {
            if (i == composed.size() || composed.get(i) == DOT) {
                label.empty();
                label.addPart(composed, start, i);
                keepLabel();
                start = i + 1;
            }
        }
    }

    private void keepLabel() {
        boolean tagged = Checker.isTagged(label);
        if (!tagged) {
            found.add(label, false, 0);
        } else if (packer.read(label, 4, unpacked) && unpacked.hasAbove(127)) {
            found.add(unpacked, true, 0);
        } else {
            found.add(label, true, bit(2));
        }
    }

    private void checkLabels(int options) {
        // Rule 10 asks about all labels as they stand, so none can be checked before all are unpacked.
        boolean directed = (options & BIDI) != 0 && Codes.hasRightToLeft(found.codes());
        for (int k = 0; k < found.count(); k++) {
            found.copyLabel(k, label);
            if (label.size() > 0 && found.rules(k) == 0) {
                int inForce = found.wasTagged(k) ? options & ~OLD : options;
                found.addRules(k, checker.brokenRules(label, inForce, directed));
            }
        }
    }

    private int writeResult(boolean ascii, boolean checkLengths) {
        result.empty();
        for (int k = 0; k < found.count(); k++) {
            if (k > 0) {
                result.add(DOT);
            }
            int start = result.size();
            found.copyLabel(k, label);
            writeLabel(ascii);
            if (checkLengths && isWrongLength(result.size() - start, k)) {
                found.addRules(k, bit(11));
            }
        }
        return checkLengths && isWholeWrongLength() ? bit(11) : 0;
    }

    private void writeLabel(boolean ascii) {
        if (ascii && label.hasAbove(127)) {
            Checker.addTag(result);
            packer.write(label, result);
        } else {
            result.addPart(label, 0, label.size());
        }
    }

    private boolean isWrongLength(int size, int k) {
        boolean mayBeEmpty = k > 0 && k == found.count() - 1;
        return size > PACKED_LABEL_LIMIT || size == 0 && !mayBeEmpty;
    }

    private boolean isWholeWrongLength() {
        int size = result.size();
        if (size > 0 && result.get(size - 1) == DOT) {
            size--;
        }
        return size == 0 || size > PACKED_WHOLE_LIMIT;
    }

    /** A row of codes with a fixed room, made once and used again by every call. */
    private static final class Row {
        private final int[] codes;
        private int size;

        Row(int limit) {
            codes = new int[limit];
            size = 0;
        }

        int size() {
            return size;
        }

        int get(int i) {
            return i < 0 || i >= size ? BAD : codes[i];
        }

        void set(int i, int code) {
            if (i >= 0 && i < size) {
                codes[i] = code;
            }
        }

        void empty() {
            size = 0;
        }

        boolean add(int code) {
            if (size >= codes.length) {
                return false;
            }
            codes[size] = code;
            size++;
            return true;
        }

        boolean insert(int place, int code) {
            if (size >= codes.length || place < 0 || place > size) {
                return false;
            }
            for (int i = size; i > place; i--) {
                codes[i] = codes[i - 1];
            }
            codes[place] = code;
            size++;
            return true;
        }

        void addPart(Row from, int start, int end) {
            for (int i = start; i < end; i++) {
                add(from.get(i));
            }
        }

        boolean hasAbove(int bound) {
            for (int i = 0; i < size; i++) {
                if (codes[i] > bound) {
                    return true;
                }
            }
            return false;
        }

        boolean isSameAs(Row other) {
            if (size != other.size()) {
                return false;
            }
            for (int i = 0; i < size; i++) {
                if (codes[i] != other.get(i)) {
                    return false;
                }
            }
            return true;
        }
    }

    /** The labels that the latest process() found, one behind the other, with the rules that each broke. */
    private static final class Labels {
        private final Row codes;
        private final int[] ends;
        private final int[] rules;
        private final boolean[] tagged;
        private int count;

        Labels() {
            codes = new Row(WORK_LIMIT);
            ends = new int[LABEL_LIMIT];
            rules = new int[LABEL_LIMIT];
            tagged = new boolean[LABEL_LIMIT];
            count = 0;
        }

        void empty() {
            codes.empty();
            count = 0;
        }

        void add(Row label, boolean wasTagged, int brokenRules) {
            if (count >= LABEL_LIMIT) {
                return;
            }
            codes.addPart(label, 0, label.size());
            ends[count] = codes.size();
            rules[count] = brokenRules;
            tagged[count] = wasTagged;
            count++;
        }

        int count() {
            return count;
        }

        Row codes() {
            return codes;
        }

        boolean has(int k) {
            return k >= 0 && k < count;
        }

        boolean wasTagged(int k) {
            return has(k) && tagged[k];
        }

        int rules(int k) {
            return has(k) ? rules[k] : BAD;
        }

        void addRules(int k, int more) {
            if (has(k)) {
                rules[k] |= more;
            }
        }

        int allRules() {
            int all = 0;
            for (int k = 0; k < count; k++) {
                all |= rules[k];
            }
            return all;
        }

        void copyLabel(int k, Row to) {
            to.empty();
            if (has(k)) {
                to.addPart(codes, k == 0 ? 0 : ends[k - 1], ends[k]);
            }
        }
    }

    /** What the document's table says of single codes. */
    private static final class Codes {
        static final int L = 1;
        static final int R = 2;
        static final int AL = 4;
        static final int AN = 8;
        static final int EN = 16;
        static final int ES = 32;
        static final int NSM = 64;
        static final int BN = 128;
        static final int ON = 256;

        static final int JOINS_NOT = 0;
        static final int JOINS_RIGHT = 1;
        static final int JOINS_BOTH = 2;
        static final int JOINS_THROUGH = 3;

        /** First and last code of each range. */
        private static final int[] GOOD_RANGES = {
            45, 46, 48, 57, 97, 122, 224, 246, 248, 255, 768, 769, 776, 776, 807, 807, 945, 961, 963, 969,
            1488, 1514, 1575, 1576, 1614, 1614, 1632, 1641, 1776, 1785, 2325, 2361, 2381, 2381, 19968, 40959};

        static boolean isWithin(int code, int first, int last) {
            return code >= first && code <= last;
        }

        static boolean isCapital(int code) {
            return code >= 65 && code <= 90;
        }

        static boolean isOdd(int code) {
            return code == SHARP_S || code == FINAL_SIGMA || code == NON_JOINER || code == JOINER;
        }

        static boolean isInGoodRanges(int code) {
            for (int i = 0; i + 1 < GOOD_RANGES.length; i += 2) {
                if (code >= GOOD_RANGES[i] && code <= GOOD_RANGES[i + 1]) {
                    return true;
                }
            }
            return false;
        }

        static boolean isPlain(int code) {
            return isWithin(code, 0, 127) && !isCapital(code) && !isInGoodRanges(code);
        }

        static boolean isGood(int code, boolean strict, boolean old) {
            return isInGoodRanges(code) || !strict && isPlain(code) || !old && isOdd(code);
        }

        /** A code that is not mapped answers itself. */
        static int mappedTo(int code) {
            if (isWithin(code, 65281, 65374)) {
                int narrow = code - 65248;
                return isCapital(narrow) ? narrow + 32 : narrow;
            }
            if (code == 12290) {
                return DOT;
            }
            boolean isLatin = isWithin(code, 192, 222) && code != 215;
            boolean isGreek = isWithin(code, 913, 937) && code != 930;
            return isCapital(code) || isLatin || isGreek ? code + 32 : code;
        }

        static int order(int code) {
            switch (code) {
                case 768:
                case 769:
                case 776:
                    return 230;
                case 807:
                    return 202;
                case 1614:
                    return 30;
                case 2381:
                    return 9;
                default:
                    return 0;
            }
        }

        static boolean isMark(int code) {
            return order(code) > 0;
        }

        static int direction(int code) {
            if (isMark(code)) {
                return NSM;
            }
            if (isWithin(code, 0, 127)) {
                return asciiDirection(code);
            }
            if (isWithin(code, 1488, 1514)) {
                return R;
            }
            if (code == 1575 || code == 1576) {
                return AL;
            }
            if (isWithin(code, 1632, 1641)) {
                return AN;
            }
            if (isWithin(code, 1776, 1785)) {
                return EN;
            }
            return code == NON_JOINER || code == JOINER ? BN : L;
        }

        private static int asciiDirection(int code) {
            if (isWithin(code, 48, 57)) {
                return EN;
            }
            if (code == HYPHEN) {
                return ES;
            }
            return isCapital(code) || isWithin(code, 97, 122) ? L : ON;
        }

        static boolean hasRightToLeft(Row row) {
            for (int i = 0; i < row.size(); i++) {
                if ((direction(row.get(i)) & (R | AL | AN)) != 0) {
                    return true;
                }
            }
            return false;
        }

        static int joining(int code) {
            switch (code) {
                case 1575:
                    return JOINS_RIGHT;
                case 1576:
                    return JOINS_BOTH;
                case 1614:
                case 2381:
                    return JOINS_THROUGH;
                default:
                    return JOINS_NOT;
            }
        }
    }

    /** Puts rows into composed form. */
    private static final class Composer {
        private static final int[] PAIR_LETTERS = {
            97, 101, 105, 111, 117, 97, 101, 105, 111, 117, 121, 97, 101, 105, 111, 117, 121, 99};
        private static final int[] PAIR_MARKS = {
            768, 768, 768, 768, 768, 769, 769, 769, 769, 769, 769, 776, 776, 776, 776, 776, 776, 807};
        private static final int[] PAIR_CODES = {
            224, 232, 236, 242, 249, 225, 233, 237, 243, 250, 253, 228, 235, 239, 246, 252, 255, 231};

        private final Row parts;

        Composer() {
            parts = new Row(WORK_LIMIT);
        }

        void form(Row from, Row to) {
            takeApart(from);
            sortMarks();
            join(to);
        }

        private void takeApart(Row from) {
            parts.empty();
            for (int i = 0; i < from.size(); i++) {
                int code = from.get(i);
                int pair = pairOfCode(code);
                if (pair == BAD) {
                    parts.add(code);
                } else {
                    parts.add(PAIR_LETTERS[pair]);
                    parts.add(PAIR_MARKS[pair]);
                }
            }
        }

        private static int pairOfCode(int code) {
            for (int p = 0; p < PAIR_CODES.length; p++) {
                if (PAIR_CODES[p] == code) {
                    return p;
                }
            }
            return BAD;
        }

        private void sortMarks() {
            for (int i = 1; i < parts.size(); i++) {
                int code = parts.get(i);
                int order = Codes.order(code);
                int place = i;
                for (int j = i - 1; j >= 0 && order > 0 && Codes.order(parts.get(j)) > order; j--) {
                    parts.set(j + 1, parts.get(j));
                    place = j;
                }
                parts.set(place, code);
            }
        }

        private void join(Row to) {
            to.empty();
            int starter = BAD;
            for (int i = 0; i < parts.size(); i++) {
                int code = parts.get(i);
                int order = Codes.order(code);
                // The marks behind a starter are sorted, so the last of them has the greatest order.
                int before = to.size() - 1 == starter ? 0 : Codes.order(to.get(to.size() - 1));
                int pair = before < order ? pairOfParts(to.get(starter), code) : BAD;
                if (pair != BAD) {
                    to.set(starter, PAIR_CODES[pair]);
                } else {
                    to.add(code);
                    starter = order > 0 ? starter : to.size() - 1;
                }
            }
        }

        private static int pairOfParts(int letter, int mark) {
            for (int p = 0; p < PAIR_CODES.length; p++) {
                if (PAIR_LETTERS[p] == letter && PAIR_MARKS[p] == mark) {
                    return p;
                }
            }
            return BAD;
        }
    }

    /** Packs rows into plain letters and unpacks them. */
    private static final class Packer {
        private static final int BASE = 36;
        private static final int FIRST_CODE = 128;
        private static final int FIRST_BIAS = 72;
        private static final long GREATEST_NUMBER = 2147483647L;
        /** Far above the digits that any number below the greatest can have. */
        private static final int DIGIT_LIMIT = 100;

        private int bias;
        private int next;

        Packer() {
            bias = FIRST_BIAS;
            next = 0;
        }

        /** Adds the codes of from, packed, to what stands in to. */
        void write(Row from, Row to) {
            int basic = writeBasic(from, to);
            int done = basic;
            int n = FIRST_CODE;
            int delta = 0;
            bias = FIRST_BIAS;
            for (int round = 0; round < from.size() && done < from.size(); round++) {
                int least = leastFrom(from, n);
                delta += (least - n) * (done + 1);
                n = least;
                for (int i = 0; i < from.size(); i++) {
                    int code = from.get(i);
                    if (code < n) {
                        delta++;
                    } else if (code == n) {
                        writeNumber(delta, to);
                        adapt(delta, done + 1, done == basic);
                        delta = 0;
                        done++;
                    }
                }
                delta++;
                n++;
            }
        }

        private static int writeBasic(Row from, Row to) {
            int basic = 0;
            for (int i = 0; i < from.size(); i++) {
                if (from.get(i) < FIRST_CODE) {
                    to.add(from.get(i));
                    basic++;
                }
            }
            if (basic > 0) {
                to.add(HYPHEN);
            }
            return basic;
        }

        private static int leastFrom(Row row, int n) {
            int least = GREATEST_CODE;
            for (int i = 0; i < row.size(); i++) {
                if (row.get(i) >= n && row.get(i) < least) {
                    least = row.get(i);
                }
            }
            return least;
        }

        private int threshold(int digit) {
            return Math.max(1, Math.min(26, BASE * (digit + 1) - bias));
        }

        private void writeNumber(int number, Row to) {
            int q = number;
            for (int digit = 0; digit < DIGIT_LIMIT; digit++) {
                int t = threshold(digit);
                if (q < t) {
                    break;
                }
                to.add(codeOfDigit(t + (q - t) % (BASE - t)));
                q = (q - t) / (BASE - t);
            }
            to.add(codeOfDigit(q));
        }

        private static int codeOfDigit(int digit) {
            return digit < 26 ? 97 + digit : 48 + digit - 26;
        }

        private static int digitOfCode(int code) {
            if (Codes.isWithin(code, 97, 122)) {
                return code - 97;
            }
            if (Codes.isCapital(code)) {
                return code - 65;
            }
            return Codes.isWithin(code, 48, 57) ? code - 48 + 26 : BAD;
        }

        private void adapt(int number, int many, boolean first) {
            int d = first ? number / 700 : number / 2;
            d += d / Math.max(1, many);
            int k = 0;
            for (int step = 0; step < DIGIT_LIMIT && d > 455; step++) {
                d /= 35;
                k += BASE;
            }
            bias = k + BASE * d / (d + 38);
        }

        /** Unpacks the codes of from behind the first start ones; answers false when that fails. */
        boolean read(Row from, int start, Row to) {
            to.empty();
            if (!readBasic(from, start, to)) {
                return false;
            }
            long i = 0;
            long n = FIRST_CODE;
            bias = FIRST_BIAS;
            for (int round = 0; round < from.size() && next < from.size(); round++) {
                long old = i;
                i = readNumber(from, old);
                if (i == BAD) {
                    return false;
                }
                int many = to.size() + 1;
                adapt((int) (i - old), many, old == 0);
                n += i / many;
                i %= many;
                if (n > GREATEST_CODE || many > TEXT_LIMIT) {
                    return false;
                }
                to.insert((int) i, (int) n);
                i++;
            }
            return true;
        }

        /** Leaves next at the first digit. */
        private boolean readBasic(Row from, int start, Row to) {
            next = start;
            int end = start;
            for (int i = start; i < from.size(); i++) {
                if (from.get(i) == HYPHEN) {
                    end = i;
                    next = i + 1;
                }
            }
            for (int i = start; i < end; i++) {
                if (from.get(i) >= FIRST_CODE || to.size() >= TEXT_LIMIT) {
                    return false;
                }
                to.add(from.get(i));
            }
            return true;
        }

        /** Answers old and the number that begins at next, or BAD when that fails. */
        private long readNumber(Row from, long old) {
            long i = old;
            long weight = 1;
            for (int digit = 0; digit < DIGIT_LIMIT && next < from.size(); digit++) {
                int d = digitOfCode(from.get(next));
                next++;
                if (d == BAD) {
                    return BAD;
                }
                i += d * weight;
                int t = threshold(digit);
                if (i > GREATEST_NUMBER) {
                    return BAD;
                }
                if (d < t) {
                    return i;
                }
                weight *= BASE - t;
                if (weight > GREATEST_NUMBER) {
                    return BAD;
                }
            }
            return BAD;
        }
    }

    /** Looks at one label at a time: the rules 3 to 10. */
    private static final class Checker {
        private static final int[] TAG = {120, 110, 45, 45};

        private final Composer composer;
        private final Row form;

        Checker() {
            composer = new Composer();
            form = new Row(WORK_LIMIT);
        }

        static boolean isTagged(Row label) {
            for (int i = 0; i < TAG.length; i++) {
                if (label.get(i) != TAG[i]) {
                    return false;
                }
            }
            return true;
        }

        static void addTag(Row to) {
            for (int i = 0; i < TAG.length; i++) {
                to.add(TAG[i]);
            }
        }

        int brokenRules(Row label, int options, boolean directed) {
            composer.form(label, form);
            int rules = form.isSameAs(label) ? 0 : bit(3);
            if ((options & HYPHENS) != 0) {
                rules |= brokenHyphenRules(label);
            }
            if (isTagged(label)) {
                rules |= bit(6);
            }
            if (Codes.isMark(label.get(0))) {
                rules |= bit(7);
            }
            if (!isAllGood(label, (options & STRICT) != 0, (options & OLD) != 0)) {
                rules |= bit(8);
            }
            if ((options & JOINERS) != 0 && !areJoinersRight(label)) {
                rules |= bit(9);
            }
            if (directed && !isDirectionRight(label)) {
                rules |= bit(10);
            }
            return rules;
        }

        private static int brokenHyphenRules(Row label) {
            int rules = 0;
            if (label.get(2) == HYPHEN && label.get(3) == HYPHEN) {
                rules |= bit(4);
            }
            if (label.get(0) == HYPHEN || label.get(label.size() - 1) == HYPHEN) {
                rules |= bit(5);
            }
            return rules;
        }

        private static boolean isAllGood(Row label, boolean strict, boolean old) {
            for (int i = 0; i < label.size(); i++) {
                if (!Codes.isGood(label.get(i), strict, old)) {
                    return false;
                }
            }
            return true;
        }

        private static boolean areJoinersRight(Row label) {
            for (int i = 0; i < label.size(); i++) {
                int code = label.get(i);
                boolean isBehindNine = Codes.order(label.get(i - 1)) == 9;
                if (code == JOINER && !isBehindNine) {
                    return false;
                }
                if (code == NON_JOINER && !isBehindNine && !isBetweenJoining(label, i)) {
                    return false;
                }
            }
            return true;
        }

        private static boolean isBetweenJoining(Row label, int place) {
            int left = joiningBeyond(label, place, -1);
            int right = joiningBeyond(label, place, 1);
            boolean joinsRight = right == Codes.JOINS_RIGHT || right == Codes.JOINS_BOTH;
            return left == Codes.JOINS_BOTH && joinsRight;
        }

        /** Beyond the label's ends there is no code, and what is none joins with nothing. */
        private static int joiningBeyond(Row label, int place, int step) {
            for (int far = 1; far <= label.size(); far++) {
                int joining = Codes.joining(label.get(place + far * step));
                if (joining != Codes.JOINS_THROUGH) {
                    return joining;
                }
            }
            return Codes.JOINS_NOT;
        }

        private static boolean isDirectionRight(Row label) {
            int first = Codes.direction(label.get(0));
            int seen = 0;
            int last = first;
            for (int i = 0; i < label.size(); i++) {
                int direction = Codes.direction(label.get(i));
                seen |= direction;
                last = direction == Codes.NSM ? last : direction;
            }
            if (first == Codes.L) {
                boolean isForeign = (seen & (Codes.R | Codes.AL | Codes.AN)) != 0;
                return !isForeign && (last & (Codes.L | Codes.EN)) != 0;
            }
            if (first != Codes.R && first != Codes.AL) {
                return false;
            }
            boolean hasBothDigits = (seen & Codes.EN) != 0 && (seen & Codes.AN) != 0;
            boolean endsRight = (last & (Codes.R | Codes.AL | Codes.EN | Codes.AN)) != 0;
            return (seen & Codes.L) == 0 && !hasBothDigits && endsRight;
        }
    }
}
