import java.math.BigInteger;
import java.util.stream.IntStream;

/** What the tests share: comparing, telling what is wrong, typing texts and reading results. */
class Due {
    static final int BAD = HostNames.BAD;
    static final int STRICT = HostNames.STRICT;
    static final int OLD = HostNames.OLD;
    static final int HYPHENS = HostNames.HYPHENS;
    static final int JOINERS = HostNames.JOINERS;
    static final int BIDI = HostNames.BIDI;
    static final int LENGTH = HostNames.LENGTH;
    static final int ALL = 63;
    static final String TAG = "xn--";
    static final String DIGITS = "abcdefghijklmnopqrstuvwxyz0123456789";

    private static int looked = 0;
    private static int wrong = 0;
    private static String sentence = "";
    private static int lookedBefore = 0;

    // ---- comparing

    /** What is compared from here on belongs to these words of the document. */
    static void sentence(String words) {
        endSentence();
        sentence = words;
        lookedBefore = looked;
    }

    private static void endSentence() {
        if (!sentence.isEmpty() && looked == lookedBefore) {
            wrong++;
            System.out.println("nothing looks at: " + sentence);
        }
    }

    static void due(String what, long got, long want) {
        looked++;
        if (got != want) {
            tell(what + " answered " + got + ", due is " + want);
        }
    }

    static void due(String what, boolean got, boolean want) {
        due(what, got ? 1L : 0L, want ? 1L : 0L);
    }

    static void due(String what, String got, String want) {
        looked++;
        if (!got.equals(want)) {
            tell(what + " gave " + shown(got) + ", due is " + shown(want));
        }
    }

    private static void tell(String what) {
        wrong++;
        System.out.println(sentence.isEmpty() ? what : what + " [" + sentence + "]");
    }

    static void end() {
        endSentence();
        if (looked == 0) {
            System.out.println("nothing was looked at");
            System.exit(1);
        }
        System.out.println(wrong == 0 ? looked + " answers are as due" : wrong + " answers are not as due");
        if (wrong != 0) {
            System.exit(1);
        }
    }

    // ---- texts

    static String codes(int... codes) {
        StringBuilder text = new StringBuilder();
        for (int code : codes) {
            text.appendCodePoint(code);
        }
        return text.toString();
    }

    /** All codes among which the document's table has its edges, and those about its farther edges. */
    static int[] tableCodes() {
        IntStream farther = IntStream.of(8204, 12290, 19968, 40959, 55296, 57343, 65281, 65313, 65338, 65374, 1114109)
            .flatMap(edge -> IntStream.rangeClosed(edge - 2, edge + 2));
        return IntStream.concat(IntStream.rangeClosed(0, 2400), farther).toArray();
    }

    /** The digits of a number, as packing writes it while bias stands at that. */
    static String digits(BigInteger number, int bias) {
        StringBuilder digits = new StringBuilder();
        BigInteger q = number;
        for (int k = 36; ; k += 36) {
            BigInteger t = BigInteger.valueOf(Math.max(1, Math.min(26, k - bias)));
            if (q.compareTo(t) < 0) {
                return digits.append(DIGITS.charAt(q.intValue())).toString();
            }
            BigInteger[] parts = q.subtract(t).divideAndRemainder(BigInteger.valueOf(36).subtract(t));
            digits.append(DIGITS.charAt(t.add(parts[1]).intValue()));
            q = parts[0];
        }
    }

    /** The digits of a first number. */
    static String digits(long number) {
        return digits(BigInteger.valueOf(number), 72);
    }

    static int count(String text) {
        return text.codePointCount(0, text.length());
    }

    static String repeated(String text, int times) {
        return text.repeat(times);
    }

    static String shown(String text) {
        StringBuilder shown = new StringBuilder("\"");
        text.codePoints().forEach(code -> {
            if (code > 32 && code < 127) {
                shown.append((char) code);
            } else {
                shown.append('<').append(code).append('>');
            }
        });
        return shown.append('"').toString();
    }

    // ---- objects

    static HostNames typed(String text) {
        HostNames names = new HostNames();
        retype(names, text);
        return names;
    }

    static void retype(HostNames names, String text) {
        names.clear();
        text.codePoints().forEach(code -> {
            if (!names.put(code)) {
                throw new IllegalStateException("the test's text can't be typed: " + shown(text));
            }
        });
    }

    static String result(HostNames names) {
        StringBuilder codes = new StringBuilder();
        for (int i = 0; i < names.length(); i++) {
            codes.appendCodePoint(names.at(i));
        }
        return codes.toString();
    }

    static String packed(String text) {
        HostNames names = typed(text);
        names.pack();
        return result(names);
    }

    /** An object that has a result, two labels and a broken rule of an earlier text, "-a.b". */
    static HostNames busy(String text) {
        HostNames names = typed("-a.b");
        names.process(HYPHENS, false);
        retype(names, text);
        return names;
    }

    /** Looks whether an object that was busy() still has all that it had. */
    static void stillBusy(String after, HostNames names, String text) {
        holds(after, names, text, "-a.b", rules(5), 0);
    }

    /** Looks at all that an object shows, and last, since that changes it, at its text. */
    static void holds(String after, HostNames names, String text, String result, int... labelRules) {
        due(after + ": result", result(names), result);
        due(after + ": at(-1)", names.at(-1), BAD);
        due(after + ": at(length)", names.at(count(result)), BAD);
        due(after + ": labels()", names.labels(), labelRules.length);
        for (int k = 0; k < labelRules.length; k++) {
            due(after + ": broken(" + k + ")", names.broken(k), labelRules[k]);
        }
        due(after + ": broken(-1)", names.broken(-1), BAD);
        due(after + ": broken(labels)", names.broken(labelRules.length), BAD);
        // Two texts are never packed alike, so the packed form shows the text as it was typed.
        names.pack();
        due(after + ": text, packed", result(names), packed(text));
        due(after + ": clear()", names.clear(), count(text));
    }

    // ---- processing

    static int rules(int... broken) {
        int sum = 0;
        for (int rule : broken) {
            sum += 1 << (rule - 1);
        }
        return sum;
    }

    /** Processes a text and looks at the answer, the result, what each label broke, and that the text stays. */
    static void told(String text, int options, boolean ascii, String wanted, int rules, int... labelRules) {
        HostNames names = typed(text);
        String call = "process(" + options + ", " + ascii + ") of " + shown(text);
        due(call, names.process(options, ascii), rules);
        holds(call, names, text, wanted, labelRules);
    }

    /** Looks at one rule alone, in a text of one label, and at the other rules not at all. */
    static void toldOfRule(int rule, String label, int options, boolean isBroken) {
        HostNames names = typed(label);
        String call = "rule " + rule + " by process(" + options + ", false) of " + shown(label);
        int wanted = isBroken ? rules(rule) : 0;
        due(call, names.process(options, false) & rules(rule), wanted);
        due(call + ", of the label", names.broken(0) & rules(rule), wanted);
    }
}
