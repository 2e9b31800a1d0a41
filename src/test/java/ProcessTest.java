/** Promises 5 to 9: process, length, at, labels, broken. */
public final class ProcessTest extends Due {
    public static void main(String[] args) {
        wrongOptions();
        mapping();
        oddCodes();
        forbiddenCodes();
        plainCodes();
        cutting();
        taggedLabels();
        taggedLabelsThatFail();
        hyphens();
        marksAndForm();
        goodness();
        joiners();
        directions();
        directionsOfAllLabels();
        ascii();
        lengths();
        wholeLength();
        readingTheResult();
        latestProcessOnly();
        end();
    }

    private static void wrongOptions() {
        HostNames names = typed("-a.b");
        names.process(HYPHENS, false);
        retype(names, "c");
        int[] wrong = {-1, 64, 128, Integer.MIN_VALUE, Integer.MAX_VALUE, -64};
        for (int options : wrong) {
            due("process(" + options + ", false)", names.process(options, false), BAD);
            due("process(" + options + ", true)", names.process(options, true), BAD);
        }
        due("result stays", result(names), "-a.b");
        due("labels() stays", names.labels(), 2);
        due("broken(0) stays", names.broken(0), rules(5));
        due("text stays", names.clear(), 1);
        for (int options = 0; options <= ALL; options++) {
            due("process(" + options + ")", typed("a").process(options, true), 0);
        }
    }

    private static void mapping() {
        told("AZ", ALL, false, "az", 0, 0);
        told("@[", 0, false, "@[", 0, 0);
        told("\u00c0\u00d6\u00d8\u00de", ALL, false, "\u00e0\u00f6\u00f8\u00fe", 0, 0);
        told("\u0391\u03a1\u03a3\u03a9", ALL, false, "\u03b1\u03c1\u03c3\u03c9", 0, 0);
        told("a\u3002b\uff0ec", ALL, false, "a.b.c", 0, 0, 0, 0);
        told("\uff21\uff3a\uff41\uff5a\uff10\uff19\uff0d\uff11", ALL, false, "azaz09-1", 0, 0);
        told("a\u00adb\u00ad", ALL, false, "ab", 0, 0);
        told("\u00ad", 0, false, "", 0, 0);
        told("A\u0300", ALL, false, "\u00e0", 0, 0);
        told("a\u00ad\u0300", ALL, false, "\u00e0", 0, 0);
        told("\uff58\uff2e--tda", ALL, false, "\u00fc", 0, 0);
    }

    private static void oddCodes() {
        told("\u00df\u03c2\u200c\u200d", 0, false, "\u00df\u03c2\u200c\u200d", 0, 0);
        told("\u00df\u03c2\u200c\u200d", OLD, false, "ss\u03c3", 0, 0);
        told("a\u200d\u0300", OLD, false, "\u00e0", 0, 0);
        told("a\u200d\u0300", 0, false, "a\u200d\u0300", 0, 0);
        told(repeated("\u00df", 48), OLD | LENGTH, true, repeated("s", 96), rules(11), rules(11));
        told(repeated("\u00df", 48), OLD | LENGTH, false, repeated("s", 96), 0, 0);
        // What is unpacked is checked as if OLD were off.
        told("xn--zca", OLD, false, "\u00df", 0, 0);
        told("xn--3xa", OLD, false, "\u03c2", 0, 0);
    }

    private static void forbiddenCodes() {
        int[] forbidden = {
            128, 172, 174, 191, 215, 247, 256, 767, 770, 775, 777, 806, 808, 912, 930, 938, 944, 970, 1487, 1515,
            1574, 1577, 1613, 1615, 1631, 1642, 1775, 1786, 2324, 2362, 2380, 2382, 8203, 8206, 12289, 12291, 19967,
            40960, 55295, 57344, 65280, 65375, 65536, 1114111};
        for (int code : forbidden) {
            told("a." + codes(code), 0, false, "a." + codes(code), rules(1, 8), 0, rules(8));
        }
        int[] good = {
            45, 48, 57, 97, 122, 224, 246, 248, 255, 945, 961, 963, 969, 1488, 1514, 1575, 1576, 1632, 1641, 1776,
            1785, 2325, 2361, 19968, 40959, 223, 962, 8204, 8205};
        for (int code : good) {
            told(codes(code), STRICT, false, codes(code), 0, 0);
        }
        int[] marks = {768, 769, 776, 807, 1614, 2381};
        for (int code : marks) {
            told(codes(code), STRICT, false, codes(code), rules(7), rules(7));
        }
    }

    private static void plainCodes() {
        int[] plain = {0, 32, 44, 47, 58, 64, 91, 96, 123, 127};
        for (int code : plain) {
            told(codes(code), 0, false, codes(code), 0, 0);
            told(codes(code), STRICT, false, codes(code), rules(1, 8), rules(8));
        }
        told("\uff01\uff5e", 0, false, "!~", 0, 0);
        told("a.\uff01", STRICT, false, "a.!", rules(1, 8), 0, rules(8));
        told("a.\uff5e", STRICT, false, "a.~", rules(1, 8), 0, rules(8));
        // A plain code of an unpacked label: what is typed is plain too.
        told("xn--!-sfa", STRICT, false, "!\u00e0", rules(1, 8), rules(8));
        told("xn--!-sfa", 0, false, "!\u00e0", 0, 0);
    }

    private static void cutting() {
        told("", ALL, false, "", 0, 0);
        told(".", 0, false, ".", 0, 0, 0);
        told("a..b.", ALL, false, "a..b.", 0, 0, 0, 0, 0);
        told(repeated(".", 48), 0, true, repeated(".", 48), 0, new int[49]);
        told("a.\u0300b", 0, false, "a.\u0300b", rules(7), 0, rules(7));
    }

    private static void taggedLabels() {
        told("xn--bcher-kva.De", ALL, false, "b\u00fccher.de", 0, 0, 0);
        told("a.XN--BCHER-KVA", ALL, true, "a.xn--bcher-kva", 0, 0, 0);
        told("xn---tda", 0, false, "\u00fc", 0, 0);
        told("xn---tda", 0, true, "xn--tda", 0, 0);
        told("xn-", 0, false, "xn-", 0, 0);
        told("xn-\u00ad-tda", 0, false, "\u00fc", 0, 0);
        told("yn--tda.xm--tda.xnx-tda.xn-xtda", 0, false, "yn--tda.xm--tda.xnx-tda.xn-xtda", 0, 0, 0, 0, 0);
        told("axn--tda", HYPHENS, false, "axn--tda", 0, 0);
        // Rule 6: what came begins with the tag itself.
        told("xn--" + packed("xn--\u00fc"), 0, false, "xn--\u00fc", rules(6), rules(6));
        told("xn--" + packed("xn--\u00fc"), HYPHENS, false, "xn--\u00fc", rules(4, 6), rules(4, 6));
        // A dot of another script inside what came cuts no labels.
        told("xn--" + packed("a\u3002b"), 0, false, "a\u3002b", rules(8), rules(8));
        told("xn--ib9b", 0, false, codes(55296), rules(8), rules(8));
    }

    private static void taggedLabelsThatFail() {
        String[] failing = {
            "xn--", "xn---", "xn--abc-", "xn----", "xn--b", "xn--td!a", "xn--99999999", "xn--\u00fc", "xn--\u00fc-tda",
            "xn---\u00e0", "xn--\u05d0", "xn--\u0300a"};
        for (String text : failing) {
            told(text, ALL & ~LENGTH & ~STRICT, false, text, rules(2), rules(2));
        }
        // Only rules 3 to 10 are passed over: rule 1 stays, and rule 11 too.
        told("xn--\u0100", 0, false, "xn--\u0100", rules(1, 2), rules(2));
        told("xn--a-", LENGTH, true, "xn--a-", rules(2), rules(2));
        told("xn--aaaaaaaaaaaaaaaa-", LENGTH, true, "xn--aaaaaaaaaaaaaaaa-", rules(2, 11), rules(2, 11));
        // More than 48 codes can only come of OLD style.
        String s47 = repeated("s", 47);
        told("xn--" + repeated("\u00df", 23) + "s-91d", OLD, false, s47 + "\u00e0", 0, 0);
        told("xn--" + repeated("\u00df", 24) + "-14d", OLD, false, "xn--" + s47 + "s-14d", rules(2), rules(2));
        told("xn--" + repeated("\u00df", 25) + "-", OLD, false, "xn--" + s47 + "sss-", rules(2), rules(2));
        told("xn--" + repeated("\u00df", 44), OLD, false, "xn--" + s47 + repeated("s", 41), rules(2), rules(2));
    }

    private static void hyphens() {
        told("ab--c.-a.a-.-.a-b.a--b.-.ab-c.--.ab--", HYPHENS, false, "ab--c.-a.a-.-.a-b.a--b.-.ab-c.--.ab--",
            rules(4, 5), rules(4), rules(5), rules(5), rules(5), 0, 0, rules(5), 0, rules(5), rules(4, 5));
        told("ab--c.-a.a-", ALL & ~HYPHENS, false, "ab--c.-a.a-", 0, 0, 0, 0);
        told("a-\u00ad-b.\uff0da", HYPHENS, false, "a--b.-a", rules(5), 0, rules(5));
        told("xn--" + packed("\u00fc-"), HYPHENS, false, "\u00fc-", rules(5), rules(5));
    }

    private static void marksAndForm() {
        told("\u0300a.b", 0, false, "\u0300a.b", rules(7), rules(7), 0);
        told("xn--" + packed("a\u0301b\u00fc"), 0, false, "a\u0301b\u00fc", rules(3), rules(3));
        told("xn--" + packed("\u0301\u0327"), 0, false, "\u0301\u0327", rules(3, 7), rules(3, 7));
        told("xn--" + packed("\u0327\u0301"), 0, false, "\u0327\u0301", rules(7), rules(7));
        told("xn--" + packed("b\u00e1\u0327"), 0, false, "b\u00e1\u0327", 0, 0);
    }

    private static void goodness() {
        told("xn--" + packed("\u00c0"), 0, false, "\u00c0", rules(8), rules(8));
        told("xn--" + packed("a\u00ad"), 0, false, "a\u00ad", rules(8), rules(8));
        told("xn--" + packed("\u0100"), 0, false, "\u0100", rules(8), rules(8));
        told("xn--" + packed("\uff41"), 0, false, "\uff41", rules(8), rules(8));
        told("xn--" + packed("\u03c2\u00df"), OLD, false, "\u03c2\u00df", 0, 0);
    }

    private static void joiners() {
        joiner("\u200c", false);
        joiner("\u200d", false);
        joiner("\u094d\u200c", true);
        joiner("\u094d\u200d", true);
        joiner("\u0915\u094d\u200c\u0915\u094d\u200d", true);
        joiner("\u094d\u0915\u200c", false);
        joiner("\u094d\u200d\u200d", false);
        joiner("\u0628\u200c\u0628", true);
        joiner("\u0628\u200c\u0627", true);
        joiner("\u0627\u200c\u0628", false);
        joiner("\u0627\u200c\u0627", false);
        joiner("\u0628\u200c", false);
        joiner("\u200c\u0628", false);
        joiner("\u0628\u064e\u064e\u200c\u064e\u094d\u0628", true);
        joiner("\u0628\u064e\u200c\u064ea", false);
        joiner("a\u064e\u200c\u064e\u0628", false);
        joiner("\u0628\u0300\u200c\u0628", false);
        joiner("\u0628\u200c\u200c\u0628", false);
        joiner("\u0628\u200d\u0628", false);
        joiner("\u0628\u200c\u0628\u200d", false);
        told("\u0628.\u200c\u0628", JOINERS, false, "\u0628.\u200c\u0628", rules(9), 0, rules(9));
        told("\u0628\u200c\u0628\u200d", OLD | JOINERS, false, "\u0628\u0628", 0, 0);
        told("xn--" + packed("a\u200d"), OLD | JOINERS, false, "a\u200d", rules(9), rules(9));
    }

    private static void joiner(String label, boolean isRight) {
        HostNames names = typed(label);
        int ninth = rules(9);
        due("rule 9 in " + packed(label), names.process(JOINERS, false) & ninth, isRight ? 0 : ninth);
        due("rule 9 of the label " + packed(label), names.broken(0) & ninth, isRight ? 0 : ninth);
        due("rule 9 not looked at", names.process(ALL & ~JOINERS & ~LENGTH, false) & ninth, 0);
    }

    private static void directions() {
        String r = "\u05d0";
        String al = "\u0628";
        String an = "\u0660";
        String en = "\u06f0";
        String[] right = {
            r, al, r + "1", r + en, al + an, r + an + al, r + "-1", r + "!1", r + "\u200c" + r, r + "\u0300",
            r + "-" + an + "\u0300\u0327", "a", "a1", "a" + en, "a-1", "a!b", "a\u200cb\u094d", "\u4e00",
            "\u0915\u094d", "\u03b1", "\u0100"};
        String[] wrong = {
            "1", en, an, "-", "!", "\u0300", "\u200c", "1a", "-a", an + r, r + "a", r + "\u4e00" + r, r + "-",
            r + "!", r + "\u200c", r + "-\u0300", r + "1" + an, al + an + en, "a" + r, "a" + al + "b", "a" + an, "a-",
            "a!", "a\u200c", "a-\u0300", "\u0300" + r};
        for (String label : right) {
            direction(label, 0);
        }
        for (int code : new int[] {97, 122, 128, 1487, 1515, 1574, 1577, 1631, 1642, 1775, 1786, 40959}) {
            direction("a" + codes(code), 0);
            direction(r + codes(code) + r, rules(10));
        }
        for (int code : new int[] {0, 44, 47, 58, 64, 91, 96, 123, 127}) {
            direction("a" + codes(code), rules(10));
            direction(r + codes(code), rules(10));
            direction("a" + codes(code) + "a", 0);
            direction(r + codes(code) + r, 0);
        }
        for (int code : new int[] {48, 57, 1776, 1785}) {
            direction("a" + codes(code), 0);
            direction(r + codes(code), 0);
            direction(r + an + codes(code), rules(10));
        }
        for (int code : new int[] {1488, 1514, 1575, 1576, 1632, 1641}) {
            direction("a" + codes(code) + "a", rules(10));
            direction(r + codes(code), 0);
            told("1." + codes(code), BIDI, false, "1." + codes(code), rules(10), rules(10),
                code == 1632 || code == 1641 ? rules(10) : 0);
        }
        for (String label : wrong) {
            direction(label, rules(10));
        }
    }

    private static void direction(String label, int wanted) {
        HostNames names = typed("\u05d0." + label);
        due("rule 10 in " + packed(label), names.process(BIDI, false) & rules(10), wanted);
        due("rule 10 of " + packed(label), names.broken(1) & rules(10), wanted);
        due("rule 10 of the first", names.broken(0), 0);
        due("rule 10 not looked at", names.process(ALL & ~BIDI & ~LENGTH, false) & rules(10), 0);
    }

    private static void directionsOfAllLabels() {
        told("1a.-.b-", BIDI, false, "1a.-.b-", 0, 0, 0, 0);
        told("1a..\u0660", BIDI, false, "1a..\u0660", rules(10), rules(10), 0, rules(10));
        told("1a.\u0627", BIDI, false, "1a.\u0627", rules(10), rules(10), 0);
        told("1a.\u06f0", BIDI, false, "1a.\u06f0", 0, 0, 0);
        told("1a.xn--" + packed("\u05d0"), BIDI, false, "1a.\u05d0", rules(10), rules(10), 0);
        // A label that could not be unpacked stands as it was typed, and counts among the labels all the same.
        told("1a.xn--\u05d0", BIDI, false, "1a.xn--\u05d0", rules(2, 10), rules(10), rules(2));
    }

    private static void ascii() {
        told("B\u00fccher.de", 0, true, "xn--bcher-kva.de", 0, 0, 0);
        told("\u007f.\u0080", 0, true, "\u007f.xn--a", rules(1, 8), 0, rules(8));
        told("\u00fc.\u00fc.a", 0, true, "xn--tda.xn--tda.a", 0, 0, 0, 0);
        told("\u00fc.", 0, true, "xn--tda.", 0, 0, 0);
        told("xn--\u00fc", 0, true, "xn--" + packed("xn--\u00fc"), rules(2), rules(2));
        told("xn--a-.-", 0, true, "xn--a-.-", rules(2), rules(2), 0);
    }

    private static void lengths() {
        int tooLong = rules(11);
        String twenty = repeated("a", 20);
        told(twenty, LENGTH, true, twenty, 0, 0);
        told(twenty + ".", LENGTH, true, twenty + ".", 0, 0, 0);
        told(twenty + "a", LENGTH, true, twenty + "a", tooLong, tooLong);
        told(twenty + "a", ALL & ~LENGTH, true, twenty + "a", 0, 0);
        told(twenty + "a", LENGTH, false, twenty + "a", 0, 0);
        told("", LENGTH, true, "", tooLong, tooLong);
        told("", LENGTH, false, "", 0, 0);
        told(".", LENGTH, true, ".", tooLong, tooLong, 0);
        told("..", LENGTH, true, "..", tooLong, tooLong, tooLong, 0);
        told(".a", LENGTH, true, ".a", tooLong, tooLong, 0);
        told("a.", LENGTH, true, "a.", 0, 0, 0);
        told("a..", LENGTH, true, "a..", tooLong, 0, tooLong, 0);
        told("a..b", LENGTH, true, "a..b", tooLong, 0, tooLong, 0);
        // It is the packed label that is measured: 4, 13, a hyphen and two digits.
        String packed20 = "xn--" + packed(repeated("a", 12) + "\u00fc");
        due("length of a packed label", packed20.length(), 20);
        told(repeated("a", 12) + "\u00fc", LENGTH, true, packed20, 0, 0);
        String packed21 = "xn--" + packed(repeated("a", 13) + "\u00fc");
        told(repeated("a", 13) + "\u00fc", LENGTH, true, packed21, tooLong, tooLong);
    }

    private static void wholeLength() {
        // 16 codes a packed label: 3 of them with dots are 50, and a last one of 9 or 10 makes 60 or 61.
        String label = repeated("a", 8) + "\u00fc";
        due("length of a packed label", packed(label).length() + 4, 16);
        String three = label + "." + label + "." + label + ".";
        String packedThree = ("xn--" + packed(label) + ".").repeat(3);
        told(three + "aaaaaaaaa", LENGTH, true, packedThree + "aaaaaaaaa", 0, 0, 0, 0, 0);
        told(three + "aaaaaaaaa.", LENGTH, true, packedThree + "aaaaaaaaa.", 0, 0, 0, 0, 0, 0);
        told(three + "aaaaaaaaaa", LENGTH, true, packedThree + "aaaaaaaaaa", rules(11), 0, 0, 0, 0);
        told(three + "aaaaaaaaaa.", LENGTH, true, packedThree + "aaaaaaaaaa.", rules(11), 0, 0, 0, 0, 0);
        told(three + "aaaaaaaaaa", ALL & ~LENGTH, true, packedThree + "aaaaaaaaaa", 0, 0, 0, 0, 0);
    }

    private static void readingTheResult() {
        HostNames names = typed("a\u00fc");
        names.process(0, false);
        due("length()", names.length(), 2);
        due("at(0)", names.at(0), 97);
        due("at(1)", names.at(1), 252);
        int[] none = {2, 3, -1, Integer.MIN_VALUE, Integer.MAX_VALUE};
        for (int i : none) {
            due("at(" + i + ")", names.at(i), BAD);
        }
        int[] noLabel = {1, 48, 49, -1, Integer.MIN_VALUE, Integer.MAX_VALUE};
        for (int k : noLabel) {
            due("broken(" + k + ")", names.broken(k), BAD);
        }
        // A longer result that went leaves nothing behind.
        retype(names, "b");
        names.process(0, false);
        due("at(1) of a shorter result", names.at(1), BAD);
    }

    private static void latestProcessOnly() {
        HostNames names = typed("-a.\u00fc.b-");
        names.process(HYPHENS, false);
        due("labels()", names.labels(), 3);
        names.pack();
        names.compose();
        retype(names, "tda");
        names.unpack();
        due("result of unpack()", result(names), "\u00fc");
        due("labels() of the latest process()", names.labels(), 3);
        due("broken(0) of the latest process()", names.broken(0), rules(5));
        due("broken(1) of the latest process()", names.broken(1), 0);
        due("broken(2) of the latest process()", names.broken(2), rules(5));
        names.process(0, false);
        due("labels() of a new process()", names.labels(), 1);
        due("broken(0) of a new process()", names.broken(0), 0);
        due("broken(1) of a new process()", names.broken(1), BAD);
    }
}
