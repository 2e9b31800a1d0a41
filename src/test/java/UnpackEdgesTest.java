import java.math.BigInteger;

/** Unpacking and promise 11: each sentence that names an edge, by itself. */
public final class UnpackEdgesTest extends Due {
    public static void main(String[] args) {
        beforeTheLastHyphen();
        nothingWhenThereIsNoHyphen();
        allMustBeBelow128();
        numbersBehindTheHyphen();
        theBeginning();
        digitsOfBothKinds();
        theNumberEnds();
        placesOfInsertion();
        biasIsAdapted();
        failsWhenADigitIsNone();
        failsWhenTheNumbersEndWithinOne();
        failsWhenANumberIsTooGreat();
        failsWhenACodeIsTooGreat();
        failsWhenThereAreTooManyCodes();
        theResultBecomesUnpacked();
        falseChangesNothing();
        end();
    }

    private static void unpacks(String text, String wanted) {
        HostNames names = busy(text);
        due("unpack() of " + shown(text), names.unpack(), true);
        holds("unpack() of " + shown(text), names, text, wanted, rules(5), 0);
    }

    private static void fails(String text) {
        HostNames names = busy(text);
        due("unpack() of " + shown(text), names.unpack(), false);
        stillBusy("unpack() of " + shown(text), names, text);
    }

    private static void beforeTheLastHyphen() {
        sentence("Unpacking: what stands before the last hyphen .. comes first");
        unpacks("bcher-kva", codes(98, 252) + "cher");
        unpacks("a---ioa", "a-" + codes(252) + "-");
        unpacks("-", "");
        unpacks("--", "-");
        unpacks("---", "--");
        unpacks("a-", "a");
        unpacks("-a", codes(128));
        unpacks("-tda", codes(252));
        unpacks("--ba", "-" + codes(128));
        unpacks("tda-", "tda");
        unpacks("A.b-", "A.b");
        unpacks(repeated("-", 48), repeated("-", 47));
        unpacks(repeated("a", 47) + "-", repeated("a", 47));
    }

    private static void nothingWhenThereIsNoHyphen() {
        sentence("Unpacking: (nothing, when there is none)");
        unpacks("", "");
        unpacks("a", codes(128));
        unpacks("tda", codes(252));
        unpacks("dn32g", codes(1114111));
    }

    private static void allMustBeBelow128() {
        sentence("Unpacking: which must all be below 128");
        unpacks(codes(0, 127) + "-", codes(0, 127));
        unpacks(codes(127) + "-ba", codes(127, 128));
        fails(codes(128) + "-");
        fails(codes(128) + "-a");
        fails(codes(97, 128) + "-a");
        fails(codes(252, 97) + "-");
        fails(codes(252) + "--");
        fails("a-" + codes(252) + "-a");
        fails(codes(1114111) + "-");
        fails(repeated("a", 46) + codes(128) + "-");
    }

    private static void numbersBehindTheHyphen() {
        sentence("Unpacking: then, behind that hyphen, numbers");
        unpacks("abc-", "abc");
        unpacks("a-dhaab", codes(252, 252, 97, 252));
        unpacks("ba-wka", codes(252) + "ba");
        unpacks("ba-yka", "ba" + codes(252));
    }

    private static void theBeginning() {
        sentence("Unpacking: i is 0, n 128, bias 72 at first");
        unpacks("a", codes(128));
        unpacks("aa", codes(128, 128));
        unpacks(repeated("a", 48), repeated(codes(128), 48));
        HostNames names = typed("a87093tca");
        due("unpack()", names.unpack(), true);
        due("unpack() again", names.unpack(), true);
        due("unpacked twice", result(names), codes(128, 1114111, 1114110));
        retype(names, "9efza");
        due("unpack() of another text", names.unpack(), true);
        due("another text", result(names), codes(6441, 6428));
    }

    private static void digitsOfBothKinds() {
        sentence("Unpacking: the next digit d (65 .. 90 count as 97 .. 122)");
        for (int digit = 1; digit < 36; digit++) {
            String text = DIGITS.charAt(digit) + "a";
            unpacks(text, codes(128 + digit));
            unpacks(text.toUpperCase(), codes(128 + digit));
        }
        unpacks("A", codes(128));
        unpacks("DN32G", codes(1114111));
        unpacks("Bcher-KvA", "B" + codes(252) + "cher");
    }

    private static void theNumberEnds() {
        sentence("Unpacking: if d is below t, the number ends; weight is multiplied by 36 - t");
        unpacks("9a", codes(163));
        unpacks("bba", codes(164));
        unpacks("99a", codes(1388));
        unpacks("bbb", codes(1389));
        unpacks("bbz", codes(128 + 1 + 35 + 25 * 35 * 35));
        unpacks("bb0a", codes(128 + 1 + 35 + 26 * 35 * 35));
        unpacks("8efz", codes(6440, 6427));
        unpacks("9efza", codes(6441, 6428));
    }

    private static void placesOfInsertion() {
        sentence("Unpacking: n grows by i / (that number), i becomes i modulo .., n is inserted at the place i");
        unpacks("abc-" + digits(0), codes(128) + "abc");
        unpacks("abc-" + digits(1), "a" + codes(128) + "bc");
        unpacks("abc-" + digits(3), "abc" + codes(128));
        unpacks("abc-" + digits(4), codes(129) + "abc");
        unpacks("abc-" + digits(7), "abc" + codes(129));
        sentence("Unpacking: and i grows by 1");
        unpacks("aaa", codes(128, 128, 128));
        unpacks("ab", codes(129, 128));
        unpacks("ac", codes(128, 129));
        unpacks("aba", codes(129, 129, 128));
        unpacks("a97093t", codes(1114111, 128));
        unpacks("a08093t", codes(128, 1114111));
        unpacks("0l32gbacdefghijk", codes(1114074, 1114073, 1114072, 1114071, 1114070, 1114069, 1114068, 1114067,
            1114066, 1114065, 1114064));
    }

    private static void biasIsAdapted() {
        sentence("Unpacking: Then bias is adapted (i - old, the number of codes with the new one, whether old is 0)");
        unpacks("8t6aob", codes(40027, 40047));
        unpacks("9t6anb", codes(40028, 40048));
        unpacks("abc-8t2s8c", "abc" + codes(64002, 64022));
        unpacks("abc-du2s4c", "abc" + codes(64003, 64023));
        unpacks("ab-yka24emb", "ab" + codes(252, 434, 443));
        unpacks("a-eha89dbb", "a" + codes(252, 480, 489));
        unpacks("a65801lca", codes(128, 700000, 699999));
        unpacks(repeated("a", 24) + "566069ybab" + repeated("b", 14),
            repeated(codes(1114111, 128), 17) + repeated(codes(128), 7));
    }

    private static void failsWhenADigitIsNone() {
        sentence("Unpacking: It FAILS when a digit is none");
        for (int code : tableCodes()) {
            boolean isTyped = new HostNames().put(code);
            boolean isDigit = code >= 48 && code <= 57 || code >= 65 && code <= 90 || code >= 97 && code <= 122;
            if (isTyped && !isDigit && code != 45) {
                due("unpack() of " + code, typed(codes(code)).unpack(), false);
                due("unpack() of " + code + " and a digit", typed(codes(code, 97)).unpack(), false);
                due("unpack() of " + code + " within a number", typed("t" + codes(code) + "a").unpack(), false);
                due("unpack() of " + code + " behind a number", typed("tda" + codes(code)).unpack(), false);
                due("unpack() of " + code + " behind a hyphen", typed("b-" + codes(code)).unpack(), false);
            }
        }
        for (String text : new String[] {"td/a", "td:a", "td@a", "td[a", "td`a", "td{a", "td.a", "td a"}) {
            fails(text);
        }
        fails(codes(65345));
        fails(codes(173, 97));
    }

    private static void failsWhenTheNumbersEndWithinOne() {
        sentence("Unpacking: .. or the numbers end within one");
        fails("b");
        fails("z");
        fails("9");
        fails("bb");
        fails("bb0");
        fails("tda9");
        fails("bcher-k");
        fails("bcher-kv");
        fails("a-b");
        fails("dn32");
        fails(repeated("a", 47) + "9");
        fails(repeated("a", 46) + "-b");
    }

    private static void failsWhenANumberIsTooGreat() {
        sentence("Unpacking: when i or weight would be above 2147483647 (i before the division)");
        // Arithmetic that wraps around would take most of these for small numbers.
        for (int bits : new int[] {31, 32, 33, 62, 63, 64, 65, 96, 128}) {
            for (int more : new int[] {-129, -1, 0, 1, 124, 1000, 1113983, 1113984}) {
                BigInteger number = BigInteger.ONE.shiftLeft(bits).add(BigInteger.valueOf(more));
                fails(digits(number, 72));
                fails("a-" + digits(number, 72));
                fails("abcdefghij-" + digits(number, 72));
                fails("a" + digits(number.subtract(BigInteger.ONE), 0));
            }
        }
        for (int size = 8; size <= 48; size++) {
            fails(repeated("9", size));
            fails(repeated("9", size - 1) + "a");
            fails("bb" + repeated("0", size - 3) + "a");
        }
        fails("a-" + repeated("9", 46));
        fails(repeated("a", 24) + repeated("9", 24));
    }

    private static void failsWhenACodeIsTooGreat() {
        sentence("Unpacking: when n would be above 1114111");
        unpacks(digits(1114111 - 128), codes(1114111));
        fails(digits(1114112 - 128));
        fails(digits(1114113 - 128));
        fails(digits(2147483647));
        for (int size = 1; size <= 39; size++) {
            String codes = repeated("a", size);
            long tooGreat = (1114112L - 128) * (size + 1);
            unpacks(codes + "-" + digits(tooGreat - 1), codes + codes(1114111));
            fails(codes + "-" + digits(tooGreat));
        }
        unpacks("dn32ga", codes(1114111, 1114111));
        unpacks("dn32g" + repeated("a", 43), repeated(codes(1114111), 44));
        fails("dn32gba");
        unpacks("a08093t", codes(128, 1114111));
        fails("a18093t");
    }

    private static void failsWhenThereAreTooManyCodes() {
        sentence("Unpacking: or when there would be more than 48 codes");
        // A text of 48 can't come to more; a label can, when OLD makes two codes of one.
        unpacks(repeated("a", 48), repeated(codes(128), 48));
        String odd23 = repeated(codes(223), 23);
        String s46 = repeated("s", 46);
        inOldStyle(odd23 + "-" + endDigits(46) + "a", s46 + codes(224, 224));
        inOldStyle(odd23 + "-" + endDigits(46) + "aa", null);
        inOldStyle(odd23 + "s-" + endDigits(47), s46 + "s" + codes(224));
        inOldStyle(odd23 + "s-" + endDigits(47) + "a", null);
        inOldStyle(odd23 + "ss-" + endDigits(48), null);
        inOldStyle(odd23 + odd23.substring(10) + "-" + endDigits(72), null);
        inOldStyle(odd23 + odd23.substring(3) + "-", null);
    }

    /** The digits that put 224 behind so many codes. */
    private static String endDigits(int codes) {
        return digits((224 - 128) * (codes + 1) + codes);
    }

    /** What stands behind the tag, and what it comes to in OLD style, or null when that fails. */
    private static void inOldStyle(String behind, String wanted) {
        String kept = TAG + behind.replace(codes(223), "ss");
        int rules = wanted == null ? rules(2) : 0;
        HostNames names = typed(TAG + behind);
        due("process(OLD) of " + shown(kept), names.process(OLD, false) & rules(2), rules);
        due("its result", result(names), wanted == null ? kept : wanted);
    }

    private static void theResultBecomesUnpacked() {
        sentence("Promise 11: The result becomes the text, unpacked: true");
        unpacks("", "");
        unpacks(TAG + "tda", codes(159) + "xn-");
        unpacks("A.b-TDA", codes(159) + "A.b");
        HostNames names = typed(repeated("a", 48));
        names.pack();
        retype(names, "tda");
        due("unpack() behind a longer result", names.unpack(), true);
        holds("unpack() behind a longer result", names, "tda", codes(252));
        due("unpack() of nothing behind a result", names.unpack(), true);
        due("length() of nothing", names.length(), 0);
    }

    private static void falseChangesNothing() {
        sentence("Promise 11: false, changing nothing, when that fails");
        for (String text : new String[] {"b", "abc-b", codes(252), codes(252) + "-", "99999999", "aa9", "dn32gba"}) {
            fails(text);
            HostNames names = typed("tda");
            names.unpack();
            retype(names, text);
            due("unpack() of " + shown(text) + " behind another", names.unpack(), false);
            holds("unpack() of " + shown(text) + " behind another", names, text, codes(252));
        }
    }
}
