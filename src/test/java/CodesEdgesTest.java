/** The table of codes: each sentence of it with its edges by itself, and then every code there is. */
public final class CodesEdgesTest extends Due {
    /** First and last code of each range. */
    private static final int[][] GOOD = {
        {45, 45}, {46, 46}, {48, 57}, {97, 122}, {224, 246}, {248, 255}, {768, 768}, {769, 769}, {776, 776},
        {807, 807}, {945, 961}, {963, 969}, {1488, 1514}, {1575, 1575}, {1576, 1576}, {1614, 1614}, {1632, 1641},
        {1776, 1785}, {2325, 2361}, {2381, 2381}, {19968, 40959}};
    private static final int[][] PLAIN = {{0, 44}, {47, 47}, {58, 64}, {91, 96}, {123, 127}};
    private static final int[][] MAPPED_BY_32 = {{65, 90}, {192, 214}, {216, 222}, {913, 929}, {931, 937}};
    private static final int[] MARKS = {768, 769, 776, 807, 1614, 2381};
    private static final int[] ORDERS = {230, 230, 230, 202, 30, 9};
    private static final int[][] ODD = {{223, 223}, {962, 962}, {8204, 8204}, {8205, 8205}};

    public static void main(String[] args) {
        goodCodes();
        forbiddenCodes();
        plainCodes();
        mappedCodes();
        mappedDot();
        mappedWideCodes();
        wideCodesThatArePlain();
        ignoredCode();
        oddCodes();
        ordersOfMarks();
        orderOfAllOthers();
        everyCodeTyped();
        everyCodeUnpacked();
        end();
    }

    private static void goodCodes() {
        sentence("Codes: GOOD: 45 (the hyphen), 46 (the dot), 48 .. 57, ..");
        for (int[] range : GOOD) {
            for (int code : new int[] {range[0], (range[0] + range[1]) / 2, range[1]}) {
                becomes(code, STRICT + OLD, codes(code), true);
            }
        }
        sentence("Codes: 224 .. 255 but 247; 945 .. 969 but 962");
        becomes(247, 0, codes(247), false);
        becomes(962, OLD, codes(963), true);
    }

    private static void forbiddenCodes() {
        sentence("Codes: all others are FORBIDDEN");
        int[] forbidden = {
            128, 172, 174, 191, 215, 247, 256, 767, 770, 775, 777, 806, 808, 912, 930, 938, 944, 970, 1487, 1515,
            1574, 1577, 1613, 1615, 1631, 1642, 1775, 1786, 2324, 2362, 2380, 2382, 8203, 8206, 12289, 12291, 19967,
            40960, 55295, 57344, 65280, 65375, 65536, 1114110, 1114111};
        for (int code : forbidden) {
            becomes(code, 0, codes(code), false);
            becomes(code, STRICT + OLD, codes(code), false);
        }
    }

    private static void plainCodes() {
        sentence("Codes: PLAIN: all other codes of 0 .. 127 but 65 .. 90; they count as good");
        for (int[] range : PLAIN) {
            for (int code = range[0]; code <= range[1]; code++) {
                becomes(code, ALL - STRICT, codes(code), true);
            }
        }
        sentence("Codes: PLAIN: .. but as forbidden when STRICT is on");
        for (int[] range : PLAIN) {
            for (int code = range[0]; code <= range[1]; code++) {
                becomes(code, STRICT, codes(code), false);
            }
        }
    }

    private static void mappedCodes() {
        sentence("Codes: MAPPED: 65 .. 90, 192 .. 222 but 215, 913 .. 937 but 930: to the code that is 32 greater");
        for (int[] range : MAPPED_BY_32) {
            for (int code = range[0]; code <= range[1]; code++) {
                becomes(code, STRICT, codes(code + 32), true);
            }
        }
        for (int code : new int[] {64, 91, 191, 215, 223, 912, 930, 938}) {
            becomes(code, 0, codes(code), isIn(PLAIN, code) || isIn(ODD, code));
        }
    }

    private static void mappedDot() {
        sentence("Codes: MAPPED: 12290: to 46");
        becomes(12290, STRICT, ".", true);
        becomes(12289, 0, codes(12289), false);
        becomes(12291, 0, codes(12291), false);
        told(codes(97, 12290, 98), 0, false, "a.b", 0, 0, 0);
    }

    private static void mappedWideCodes() {
        sentence("Codes: MAPPED: 65281 .. 65374: to the code that is 65248 less");
        for (int code = 65281; code <= 65374; code++) {
            int less = code - 65248;
            becomes(code, 0, codes(less >= 65 && less <= 90 ? less + 32 : less), true);
        }
        becomes(65280, 0, codes(65280), false);
        becomes(65375, 0, codes(65375), false);
        sentence("Codes: MAPPED: and then, if that is 65 .. 90, to the one 32 greater");
        becomes(65312, 0, "@", true);
        becomes(65313, STRICT, "a", true);
        becomes(65338, STRICT, "z", true);
        becomes(65339, 0, "[", true);
        told(codes(65345, 65294, 65370), STRICT, false, "a.z", 0, 0, 0);
    }

    private static void wideCodesThatArePlain() {
        sentence("Codes: MAPPED: (if it is plain, it counts as plain)");
        for (int code = 65281; code <= 65374; code++) {
            if (isIn(PLAIN, code - 65248)) {
                becomes(code, 0, codes(code - 65248), true);
                becomes(code, STRICT, codes(code - 65248), false);
            }
        }
    }

    private static void ignoredCode() {
        sentence("Codes: IGNORED: 173");
        becomes(173, STRICT, "", true);
        told(codes(173, 97, 173, 173, 98, 173), STRICT, false, "ab", 0, 0);
        told(repeated(codes(173), 48), STRICT, false, "", 0, 0);
    }

    private static void oddCodes() {
        sentence("Codes: ODD: .. In OLD style they are mapped: 223 to 115, 115; 962 to 963; 8204 and 8205 to nothing");
        becomes(223, OLD, "ss", true);
        becomes(962, OLD, codes(963), true);
        becomes(8204, OLD, "", true);
        becomes(8205, OLD, "", true);
        told(repeated(codes(223), 48), OLD, false, repeated("s", 96), 0, 0);
        sentence("Codes: ODD: .. otherwise they count as good");
        for (int[] odd : ODD) {
            becomes(odd[0], STRICT, codes(odd[0]), true);
            becomes(odd[0], 0, codes(odd[0]), true);
        }
    }

    /** What processing makes of a code, and whether it counts as good. */
    private static void becomes(int code, int options, String wanted, boolean isGood) {
        HostNames names = typed(codes(code));
        String call = "process(" + options + ", false) of the code " + code;
        due(call, names.process(options, false) & rules(1, 8), isGood ? 0 : rules(1, 8));
        due(call + ": result", result(names), wanted);
        due(call + ": broken(0)", names.broken(0) & rules(1, 8), isGood ? 0 : rules(8));
    }

    private static void ordersOfMarks() {
        sentence("Codes: MARKS are 768, 769, 776 with the ORDER 230, 807 with 202, 1614 with 30, 2381 with 9");
        for (int a = 0; a < MARKS.length; a++) {
            for (int b = 0; b < MARKS.length; b++) {
                HostNames names = typed(codes(MARKS[a], MARKS[b]));
                names.compose();
                boolean exchanged = ORDERS[a] > ORDERS[b];
                due("first of " + MARKS[a] + ", " + MARKS[b], names.at(0), exchanged ? MARKS[b] : MARKS[a]);
                due("second of " + MARKS[a] + ", " + MARKS[b], names.at(1), exchanged ? MARKS[a] : MARKS[b]);
            }
        }
    }

    private static void orderOfAllOthers() {
        sentence("Codes: All other codes have the order 0");
        for (int code : tableCodes()) {
            boolean isMark = indexOf(MARKS, code) >= 0;
            HostNames names = new HostNames();
            names.put(776);
            // 55296 .. 57343 can't be typed, and 99 takes the mark behind it.
            if (!isMark && code != 99 && names.put(code)) {
                names.put(807);
                names.compose();
                due("first of 776, " + code + ", 807", names.at(0), 776);
                due("second of 776, " + code + ", 807", names.at(1), code);
                due("third of 776, " + code + ", 807", names.at(2), 807);
            }
            toldOfRule(7, code < 128 ? codes(code) : TAG + digits(code - 128), 0, isMark);
        }
    }

    private static int indexOf(int[] codes, int code) {
        for (int i = 0; i < codes.length; i++) {
            if (codes[i] == code) {
                return i;
            }
        }
        return -1;
    }

    private static boolean isIn(int[][] ranges, int code) {
        for (int[] range : ranges) {
            if (code >= range[0] && code <= range[1]) {
                return true;
            }
        }
        return false;
    }

    private static void everyCodeTyped() {
        sentence("Codes: a .. b means both and all between");
        HostNames names = new HostNames();
        int wrong = 0;
        for (int code = 0; code <= 1114111; code++) {
            // An object is good for 512 calls.
            names = code % 16 == 0 ? new HostNames() : names;
            boolean isHalf = code >= 55296 && code <= 57343;
            for (int options = 0; options <= 3 && !isHalf && names.put(code); options++) {
                int rules = names.process(options, false);
                boolean fits = rules == dueRules(code, options) && hasResult(names, dueResult(code, options));
                wrong += fits ? 0 : 1;
                if (!fits && wrong < 20) {
                    due("process(" + options + ", false) of the code " + code, rules, dueRules(code, options));
                    due("its result", result(names), dueResult(code, options));
                }
                names.clear();
            }
        }
        due("codes that are not as due", wrong, 0);
    }

    private static boolean hasResult(HostNames names, String wanted) {
        int[] codes = wanted.codePoints().toArray();
        boolean fits = names.length() == codes.length;
        for (int i = 0; fits && i < codes.length; i++) {
            fits = names.at(i) == codes[i];
        }
        return fits;
    }

    private static String dueResult(int code, int options) {
        if (isIn(ODD, code) && (options & OLD) != 0) {
            return code == 223 ? "ss" : code == 962 ? codes(963) : "";
        }
        if (code >= 65281 && code <= 65374) {
            return dueResult(code - 65248, options);
        }
        if (code == 173 || code == 12290) {
            return code == 173 ? "" : ".";
        }
        return codes(isIn(MAPPED_BY_32, code) ? code + 32 : code);
    }

    private static int dueRules(int code, int options) {
        String made = dueResult(code, options);
        int first = made.isEmpty() ? 's' : made.codePointAt(0);
        boolean countsAsGood = isIn(GOOD, first) || isIn(ODD, first) || isIn(PLAIN, first) && (options & STRICT) == 0;
        return (countsAsGood ? 0 : rules(1, 8)) + (indexOf(MARKS, first) >= 0 ? rules(7) : 0);
    }

    private static void everyCodeUnpacked() {
        sentence("To process: 8: a code in it is not good (mapped, ignored and forbidden ones, ..");
        HostNames names = new HostNames();
        int wrong = 0;
        for (int code = 128; code <= 1114111; code++) {
            names = code % 16 == 0 ? new HostNames() : names;
            retype(names, TAG + digits(code - 128));
            boolean isGood = isIn(GOOD, code) || isIn(ODD, code);
            int wanted = (isGood ? 0 : rules(8)) + (indexOf(MARKS, code) >= 0 ? rules(7) : 0);
            int rules = names.process(STRICT + OLD, false);
            boolean fits = rules == wanted && names.length() == 1 && names.at(0) == code && names.broken(0) == wanted;
            wrong += fits ? 0 : 1;
            if (!fits && wrong < 20) {
                due("process() of the unpacked code " + code, rules, wanted);
                due("its result", result(names), codes(code));
            }
        }
        due("unpacked codes that are not as due", wrong, 0);
    }
}
