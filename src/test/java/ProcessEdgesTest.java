/** To process, the rules 1 to 8 and promise 5: each sentence that names an edge, by itself. */
public final class ProcessEdgesTest extends Due {
    public static void main(String[] args) {
        ignoredOnesGo();
        rule1ByForbiddenCodes();
        rule1ByPlainCodes();
        theWholeIsComposed();
        labelsAreCutAtDots();
        taggedLabels();
        rule2WhenUnpackingFails();
        rule2WhenNoCodesCome();
        rule2WhenOnlyCodesBelow128Come();
        rule2LeavesTheLabel();
        whatCameIsTheLabel();
        asIfOldWereOff();
        emptyLabels();
        rule3();
        rule4();
        rule5();
        rule6();
        rule7();
        rule8();
        theAnswerIsASum();
        wrongOptionsChangeNothing();
        optionsAreAddedUp();
        end();
    }

    private static void ignoredOnesGo() {
        sentence("To process: every code is mapped (ignored ones go)");
        told("AbC", 0, false, "abc", 0, 0);
        told(codes(173), ALL, false, "", 0, 0);
        told(codes(173, 46, 173), 0, false, ".", 0, 0, 0);
        told(repeated(codes(173), 48), 0, false, "", 0, 0);
        told(repeated("A", 48), 0, false, repeated("a", 48), 0, 0);
    }

    private static void rule1ByForbiddenCodes() {
        sentence("To process: RULE 1 is broken if one is forbidden (it stays as it is)");
        told(codes(256) + "a", 0, false, codes(256) + "a", rules(1, 8), rules(8));
        told("a" + codes(256), 0, false, "a" + codes(256), rules(1, 8), rules(8));
        told("A" + codes(256) + "B.c", 0, false, "a" + codes(256) + "b.c", rules(1, 8), rules(8), 0);
        told(repeated("a", 47) + codes(1114111), 0, false, repeated("a", 47) + codes(1114111), rules(1, 8), rules(8));
        told(codes(128) + repeated("a", 47), 0, false, codes(128) + repeated("a", 47), rules(1, 8), rules(8));
        told(repeated(codes(247), 48), 0, false, repeated(codes(247), 48), rules(1, 8), rules(8));
        // What only unpacking brings was not there to be mapped.
        told(TAG + packed(codes(256)), 0, false, codes(256), rules(8), rules(8));
        told(TAG + packed(codes(173)), 0, false, codes(173), rules(8), rules(8));
    }

    private static void rule1ByPlainCodes() {
        sentence("To process: or, STRICT being on, a plain one comes of mapping");
        for (int code : new int[] {65281, 65292, 65295, 65306, 65312, 65339, 65344, 65371, 65374}) {
            String plain = codes(code - 65248);
            told("a" + codes(code), STRICT, false, "a" + plain, rules(1, 8), rules(8));
            told("a" + codes(code), ALL - STRICT, false, "a" + plain, 0, 0);
            told("a" + plain, STRICT, false, "a" + plain, rules(1, 8), rules(8));
        }
        for (int code : new int[] {65293, 65296, 65305, 65313, 65338, 65345, 65370}) {
            due("process(STRICT) of " + code, typed(codes(code)).process(STRICT, false), 0);
        }
        told(codes(97, 65294, 98), STRICT, false, "a.b", 0, 0, 0);
    }

    private static void theWholeIsComposed() {
        sentence("To process: The whole is put into composed form");
        told(codes(65, 768), 0, false, codes(224), 0, 0);
        told(codes(192, 807), 0, false, codes(224, 807), 0, 0);
        told(codes(97, 173, 768), 0, false, codes(224), 0, 0);
        told(codes(97, 8204, 768), OLD, false, codes(224), 0, 0);
        told(codes(97, 8204, 768), 0, false, codes(97, 8204, 768), 0, 0);
        told(codes(65345, 776), 0, false, codes(228), 0, 0);
        told(codes(97, 46, 768), 0, false, codes(97, 46, 768), rules(7), 0, rules(7));
        told(codes(98, 769, 807, 98), 0, false, codes(98, 807, 769, 98), 0, 0);
        told(repeated(codes(97, 768), 24), 0, false, repeated(codes(224), 24), 0, 0);
        told(repeated(codes(223), 47) + codes(252), OLD, false, repeated("s", 94) + codes(252), 0, 0);
    }

    private static void labelsAreCutAtDots() {
        sentence("To process: and cut into LABELS at its dots (one more than dots)");
        told("", 0, false, "", 0, 0);
        told("a", 0, false, "a", 0, 0);
        told(".", 0, false, ".", 0, 0, 0);
        told("a.", 0, false, "a.", 0, 0, 0);
        told(".a", 0, false, ".a", 0, 0, 0);
        told("a..b", 0, false, "a..b", 0, 0, 0, 0);
        told(codes(12290, 65294, 46), 0, false, "...", 0, 0, 0, 0, 0);
        told(repeated(".", 47), 0, false, repeated(".", 47), 0, new int[48]);
        told(repeated(".", 48), 0, false, repeated(".", 48), 0, new int[49]);
        told(repeated(codes(12290), 48), ALL, false, repeated(".", 48), 0, new int[49]);
        told(repeated("a.", 24), ALL, false, repeated("a.", 24), 0, new int[25]);
        // A dot that unpacking brings is no dot, nor can it bring 46.
        told(TAG + packed(codes(12290)), 0, false, codes(12290), rules(8), rules(8));
    }

    private static void taggedLabels() {
        sentence("To process: if it begins with 120, 110, 45, 45 (TAGGED), what is behind is unpacked");
        told(TAG + "tda", ALL, false, codes(252), 0, 0);
        told("XN--TDA", ALL, false, codes(252), 0, 0);
        told(codes(65336, 65326, 65293, 65293, 173) + "tda", ALL, false, codes(252), 0, 0);
        told("a." + TAG + "tda." + TAG + "bcher-kva", ALL, false, "a." + codes(252, 46, 98, 252) + "cher", 0, 0, 0, 0);
        told(TAG + "-tda", 0, false, codes(252), 0, 0);
        told(TAG + packed(codes(252) + "xn-"), 0, false, codes(252) + "xn-", 0, 0);
        for (String label : new String[] {"xn-", "xn", "x", "n--tda", "xn-tda", "xm--tda", "yn--tda", "xn-x-tda",
            "axn--tda", "-xn--tda", "xnn--tda", "x" + codes(241) + "--tda"}) {
            told(label, 0, false, label, 0, 0);
        }
        told("xn.--tda", 0, false, "xn.--tda", 0, 0, 0);
        told("xn-" + codes(768) + "-tda", 0, false, "xn-" + codes(768) + "-tda", 0, 0);
    }

    /** The label stays and breaks rule 2 alone, whatever the options. */
    private static void breaksRule2(String label) {
        told(label, 0, false, label, rules(2), rules(2));
        told(label, ALL - STRICT, false, label, rules(2), rules(2));
        told("a." + label + ".-", HYPHENS, false, "a." + label + ".-", rules(2, 5), 0, rules(2), rules(5));
    }

    private static void rule2WhenUnpackingFails() {
        sentence("To process: RULE 2 is broken if that fails");
        for (String behind : new String[] {"b", "tda9", "t!a", "a-t_a", "bcher-kv", "99999999", "dn32gba", codes(252),
            codes(252) + "-tda", "a" + codes(1488), "b" + codes(768)}) {
            breaksRule2(TAG + behind);
        }
        told(TAG + digits(1114112 - 128), 0, false, TAG + digits(1114112 - 128), rules(2), rules(2));
        told(TAG + digits(1114111 - 128), 0, false, codes(1114111), rules(8), rules(8));
    }

    private static void rule2WhenNoCodesCome() {
        sentence("To process: .. or comes to no codes");
        breaksRule2(TAG);
        breaksRule2(TAG + "-");
        told("a." + TAG, 0, false, "a." + TAG, rules(2), 0, rules(2));
        told(TAG + codes(173), 0, false, TAG, rules(2), rules(2));
        told(TAG + codes(8204, 8205), OLD, false, TAG, rules(2), rules(2));
    }

    private static void rule2WhenOnlyCodesBelow128Come() {
        sentence("To process: .. or to codes below 128 alone");
        breaksRule2(TAG + "a-");
        breaksRule2(TAG + "abc-");
        breaksRule2(TAG + "--");
        breaksRule2(TAG + "tda-");
        breaksRule2(TAG + codes(127) + "-");
        breaksRule2(TAG + codes(0) + "-");
        breaksRule2(TAG + TAG);
        told(TAG + "a", 0, false, codes(128), rules(8), rules(8));
        told(TAG + "a-a", 0, false, codes(128) + "a", rules(8), rules(8));
        told(TAG + codes(127) + "-ba", 0, false, codes(127, 128), rules(8), rules(8));
    }

    private static void rule2LeavesTheLabel() {
        sentence("To process: the label then stays as it is, and the rules 3 to 10 are not looked at for it");
        // By themselves these would break 4, 5 and 6, and some of them 8, 9 and 10.
        told(TAG + "a-", ALL - LENGTH, false, TAG + "a-", rules(2), rules(2));
        told(TAG + "!-", ALL - STRICT, false, TAG + "!-", rules(2), rules(2));
        told(TAG + "!-", STRICT, false, TAG + "!-", rules(1, 2), rules(2));
        told(TAG + codes(256), 0, false, TAG + codes(256), rules(1, 2), rules(2));
        told(TAG + codes(8204, 8205), JOINERS, false, TAG + codes(8204, 8205), rules(2), rules(2));
        told(TAG + codes(1488), BIDI, false, TAG + codes(1488), rules(2), rules(2));
        told(codes(1488) + "." + TAG + "1-", BIDI, false, codes(1488) + "." + TAG + "1-", rules(2), 0, rules(2));
        // It counts among the labels when rule 10 asks for a code of R, AL or AN.
        told(TAG + codes(1488) + ".1", BIDI, false, TAG + codes(1488) + ".1", rules(2, 10), rules(2), rules(10));
        // Rule 11 is none of those that are passed over.
        String long21 = TAG + repeated("a", 16) + "-";
        told(long21, ALL, true, long21, rules(2, 11), rules(2, 11));
    }

    private static void whatCameIsTheLabel() {
        sentence("To process: otherwise the label is what came");
        told(TAG + "tda." + TAG + "tda", 0, false, codes(252, 46, 252), 0, 0, 0);
        told(TAG + packed(codes(192)), 0, false, codes(192), rules(8), rules(8));
        told(TAG + packed(codes(97, 768)), 0, false, codes(97, 768), rules(3), rules(3));
        told(TAG + "ib9b", 0, false, codes(55296), rules(8), rules(8));
        told(TAG + repeated("a", 44), 0, false, repeated(codes(128), 44), rules(8), rules(8));
        // A long label of before leaves nothing behind.
        HostNames names = typed(TAG + repeated("a", 44));
        names.process(0, false);
        retype(names, TAG + "tda");
        due("process() of a shorter label", names.process(ALL, false), 0);
        due("a shorter label", result(names), codes(252));
    }

    private static void asIfOldWereOff() {
        sentence("To process: .. to be checked as if OLD were off");
        for (int odd : new int[] {223, 962, 8204, 8205}) {
            told(TAG + packed(codes(97, odd)), OLD, false, codes(97, odd), 0, 0);
            told(TAG + packed(codes(97, odd)), OLD + STRICT, false, codes(97, odd), 0, 0);
            told(TAG + packed(codes(97, odd)), 0, false, codes(97, odd), 0, 0);
        }
        told(TAG + packed(codes(97, 8205)), OLD + JOINERS, false, codes(97, 8205), rules(9), rules(9));
        told(codes(223) + "." + TAG + "zca." + codes(223), OLD, false, "ss." + codes(223) + ".ss", 0, 0, 0, 0);
        told(TAG + packed("-" + codes(223)), OLD + HYPHENS, false, "-" + codes(223), rules(5), rules(5));
        told(TAG + packed("!" + codes(223)), OLD, false, "!" + codes(223), 0, 0);
    }

    private static void emptyLabels() {
        sentence("To process: The other rules, each for a label that is not empty");
        told("", ALL, false, "", 0, 0);
        told("..", ALL, false, "..", 0, 0, 0, 0);
        told(".-.", ALL, false, ".-.", rules(5), 0, rules(5), 0);
        told("." + codes(1488) + ".", ALL, false, "." + codes(1488) + ".", 0, 0, 0, 0);
        told("." + codes(1488) + "a.", ALL, false, "." + codes(1488) + "a.", rules(10), 0, rules(10), 0);
    }

    private static void rule3() {
        sentence("To process: 3: it is not in composed form");
        rule3(codes(97, 768), true);
        rule3(codes(98, 99, 807), true);
        rule3(codes(121, 769), true);
        rule3(codes(121, 768), false);
        rule3(codes(98, 769, 807), true);
        rule3(codes(98, 807, 769), false);
        rule3(codes(98, 768, 769), false);
        rule3(codes(224, 807), false);
        rule3(codes(97, 807, 768), true);
        rule3(codes(252), false);
        rule3(codes(192), false);
        rule3(codes(65313, 768), false);
        rule3(codes(769, 97, 807), false);
        rule3(codes(769, 807, 97), true);
        // A label that is typed has been composed before.
        told(codes(97, 768), ALL, false, codes(224), 0, 0);
    }

    private static void rule3(String label, boolean isBroken) {
        toldOfRule(3, TAG + packed(label), 0, isBroken);
        toldOfRule(3, label, 0, false);
    }

    private static void rule4() {
        sentence("To process: 4 (HYPHENS on): it has a hyphen at both of its places 2 and 3 (from 0)");
        hyphenRule(4, true, "ab--", "ab--c", "----", "ab---", "a---b", "----a");
        hyphenRule(4, false, "a", "-", "--", "---", "ab-", "a--b", "ab-c", "abc-", "ab-c-", "abc--", "abc--d", "--ab");
        toldOfRule(4, TAG + packed("ab--" + codes(252)), HYPHENS, true);
        toldOfRule(4, TAG + packed("ab-" + codes(252) + "-"), HYPHENS, false);
        toldOfRule(4, TAG + packed("ab--" + codes(252)), ALL - HYPHENS, false);
        told("ab.-.-", HYPHENS, false, "ab.-.-", rules(5), 0, rules(5), rules(5));
        toldOfRule(4, TAG + "tda", HYPHENS, false);
    }

    private static void rule5() {
        sentence("To process: 5 (HYPHENS on): it begins or ends with a hyphen");
        hyphenRule(5, true, "-", "--", "---", "-a", "a-", "-a-", "--a", "a--", "-a-b");
        hyphenRule(5, false, "a", "a-b", "a--b", "ab--c", "a-b-c");
        toldOfRule(5, TAG + packed("-" + codes(252)), HYPHENS, true);
        toldOfRule(5, TAG + packed(codes(252) + "-"), HYPHENS, true);
        toldOfRule(5, TAG + packed(codes(252) + "-a"), HYPHENS, false);
        toldOfRule(5, codes(65293) + "a", HYPHENS, true);
        toldOfRule(5, "a-" + codes(173), HYPHENS, true);
        toldOfRule(5, repeated("a", 47) + "-", HYPHENS, true);
    }

    private static void hyphenRule(int rule, boolean isBroken, String... labels) {
        for (String label : labels) {
            toldOfRule(rule, label, HYPHENS, isBroken);
            toldOfRule(rule, label, ALL, isBroken);
            toldOfRule(rule, label, ALL - HYPHENS, false);
        }
    }

    private static void rule6() {
        sentence("To process: 6: it begins with 120, 110, 45, 45");
        told(TAG + packed(TAG + codes(252)), 0, false, TAG + codes(252), rules(6), rules(6));
        told(TAG + packed(TAG + "a" + codes(252)), HYPHENS, false, TAG + "a" + codes(252), rules(4, 6), rules(4, 6));
        for (String label : new String[] {"xn-" + codes(252), "xm--" + codes(252), "yn--" + codes(252),
            "axn--" + codes(252), codes(252) + TAG, "xn-" + codes(252) + "-", "xn" + codes(252) + "--"}) {
            toldOfRule(6, TAG + packed(label), 0, false);
        }
        toldOfRule(6, TAG + "a-", 0, false);
        toldOfRule(6, "xn-", 0, false);
    }

    private static void rule7() {
        sentence("To process: 7: it begins with a mark");
        for (int mark : new int[] {768, 769, 776, 807, 1614, 2381}) {
            toldOfRule(7, codes(mark), 0, true);
            toldOfRule(7, codes(mark, 97), 0, true);
            toldOfRule(7, codes(98, mark), 0, false);
            toldOfRule(7, TAG + packed(codes(mark)), 0, true);
            toldOfRule(7, TAG + packed(codes(98, mark)), 0, false);
            told(codes(98, 46, mark), 0, false, codes(98, 46, mark), rules(7), 0, rules(7));
            told(codes(173, mark), 0, false, codes(mark), rules(7), rules(7));
        }
    }

    private static void rule8() {
        sentence("To process: 8: a code in it is not good (mapped, ignored and forbidden ones");
        for (int code : new int[] {192, 222, 913, 937, 12290, 65281, 65374, 173, 128, 215, 247, 930, 1114111}) {
            for (String label : new String[] {codes(code), codes(97, code), codes(code, 97), codes(252, code, 252)}) {
                toldOfRule(8, TAG + packed(label), 0, true);
                toldOfRule(8, TAG + packed(label), ALL, true);
            }
        }
        sentence("To process: 8: .. plain ones when STRICT is on");
        for (int code : new int[] {0, 33, 44, 47, 58, 64, 91, 96, 123, 127}) {
            for (String label : new String[] {codes(code), codes(97, code), codes(code, 97), codes(97, code, 97)}) {
                toldOfRule(8, label, STRICT, true);
                toldOfRule(8, label, ALL - STRICT, false);
                toldOfRule(8, TAG + packed(label + codes(252)), STRICT, true);
                toldOfRule(8, TAG + packed(label + codes(252)), ALL - STRICT, false);
            }
        }
        sentence("To process: 8: .. odd ones when OLD is on and the label was not tagged)");
        for (int odd : new int[] {223, 962, 8204, 8205}) {
            toldOfRule(8, codes(97, odd), OLD, false);
            toldOfRule(8, codes(97, odd), 0, false);
            toldOfRule(8, TAG + packed(codes(97, odd)), OLD, false);
        }
    }

    private static void theAnswerIsASum() {
        sentence("Promise 5: Answers the sum of 1 << (k - 1) over the rules k that are broken by it or by some label");
        told("-a.-b.c-", HYPHENS, false, "-a.-b.c-", rules(5), rules(5), rules(5), rules(5));
        told(codes(256, 46, 256, 256), 0, false, codes(256, 46, 256, 256), rules(1, 8), rules(8), rules(8));
        told("-a.ab--c", HYPHENS, false, "-a.ab--c", rules(4, 5), rules(5), rules(4));
        String unordered = TAG + packed(codes(769, 807));
        String tagInside = TAG + packed(TAG + codes(252) + "-");
        String text = TAG + ".." + unordered + "." + tagInside + "." + codes(256, 8205, 46, 1488, 97);
        HostNames names = typed(text);
        due("process(61, true), all rules broken", names.process(ALL - OLD, true), 2047);
        int[] wanted = {rules(2), rules(11), rules(3, 7, 10), rules(4, 5, 6, 10), rules(8, 9, 10), rules(10)};
        for (int k = 0; k < wanted.length; k++) {
            due("broken(" + k + ")", names.broken(k), wanted[k]);
        }
        due("process(0, true)", names.process(0, true), rules(1, 2, 3, 6, 7, 8));
        // One label can break most of them.
        brokenByOneLabel(TAG + "aaaaa" + codes(768, 192, 8205) + "-", 3, 4, 5, 6, 8, 9, 10, 11);
        brokenByOneLabel(codes(769, 807) + "--aaaaaa" + codes(192, 8205) + "-", 3, 4, 5, 7, 8, 9, 10, 11);
    }

    private static void brokenByOneLabel(String label, int... broken) {
        String text = TAG + packed(label) + "." + codes(1488);
        told(text, ALL, true, TAG + packed(label) + "." + TAG + packed(codes(1488)), rules(broken), rules(broken), 0);
    }

    private static void wrongOptionsChangeNothing() {
        sentence("Promise 5: BAD, changing nothing, when options is not 0 .. 63");
        for (int options : new int[] {-1, -64, 64, 65, 127, 128, Integer.MIN_VALUE, Integer.MAX_VALUE}) {
            for (boolean ascii : new boolean[] {false, true}) {
                HostNames names = busy("c.d.e");
                due("process(" + options + ", " + ascii + ")", names.process(options, ascii), BAD);
                stillBusy("process(" + options + ", " + ascii + ")", names, "c.d.e");
            }
        }
        HostNames names = typed("a");
        due("process(64, true) of a new object", names.process(64, true), BAD);
        holds("process(64, true) of a new object", names, "a", "");
        for (int options = 0; options <= 63; options++) {
            told("a.b", options, options % 2 == 0, "a.b", 0, 0, 0);
        }
    }

    private static void optionsAreAddedUp() {
        sentence("The constants: Options: add them up");
        due("all options", STRICT + OLD + HYPHENS + JOINERS + BIDI + LENGTH, 63);
        // One label for each option but OLD, which shows in what becomes of 223.
        String text = "!.-." + codes(8205, 46, 1488, 97, 46, 46, 223);
        for (int options = 0; options <= 63; options++) {
            int wanted = (options & STRICT) != 0 ? rules(1, 8) : 0;
            wanted |= (options & HYPHENS) != 0 ? rules(5) : 0;
            wanted |= (options & JOINERS) != 0 && (options & OLD) == 0 ? rules(9) : 0;
            wanted |= (options & BIDI) != 0 ? rules(10) : 0;
            wanted |= (options & LENGTH) != 0 ? rules(11) : 0;
            HostNames names = typed(text);
            due("process(" + options + ", true)", names.process(options, true), wanted);
            int last = (options & OLD) != 0 ? 's' : 'a';
            due("at(last) of process(" + options + ", true)", names.at(names.length() - 1), last);
        }
    }
}
