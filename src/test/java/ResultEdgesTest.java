import java.util.Arrays;
import java.util.stream.IntStream;

/** The result, rule 11 and promises 6 to 9: each sentence that names an edge, by itself. */
public final class ResultEdgesTest extends Due {
    private static final String A20 = repeated("a", 20);

    public static void main(String[] args) {
        labelsJoinedByDots();
        labelsAreReplacedForAscii();
        emptyLabelsBreakRule11();
        theLastLabelMayBeEmpty();
        longLabelsBreakRule11();
        packedLabelsAreMeasured();
        aWholeOfNone();
        aWholeOfMoreThan60();
        withoutAnEmptyLastLabel();
        onlyWithTheOption();
        onlyForAscii();
        lengthOfTheResult();
        codesOfTheResult();
        howManyLabels();
        whatLabelsBroke();
        rule1IsNoLabels();
        rule11OfALabel();
        end();
    }

    private static void labelsJoinedByDots() {
        sentence("The result: the labels, joined by dots");
        told("", 0, false, "", 0, 0);
        told(".", 0, false, ".", 0, 0, 0);
        told("a", 0, false, "a", 0, 0);
        told("a.b", 0, false, "a.b", 0, 0, 0);
        told(".a..b.", 0, false, ".a..b.", 0, 0, 0, 0, 0, 0);
        told(repeated(".", 48), 0, false, repeated(".", 48), 0, new int[49]);
        told(repeated(".", 48), 0, true, repeated(".", 48), 0, new int[49]);
        told(TAG + "tda.b." + TAG + "tda", 0, false, codes(252) + ".b." + codes(252), 0, 0, 0, 0);
        told(repeated(codes(223), 47) + ".", OLD, false, repeated("s", 94) + ".", 0, 0, 0);
        told(repeated(codes(223), 48), OLD, true, repeated("s", 96), 0, 0);
    }

    private static void labelsAreReplacedForAscii() {
        sentence("The result: For ASCII, every label with a code above 127 is replaced by 120, 110, 45, 45 and ..");
        told(codes(127), 0, true, codes(127), 0, 0);
        told(codes(128), 0, true, TAG + "a", rules(1, 8), rules(8));
        told(codes(127, 128), 0, true, TAG + codes(127) + "-ba", rules(1, 8), rules(8));
        String books = "b" + codes(252) + "cher.de." + codes(252);
        told(books, 0, true, TAG + "bcher-kva.de." + TAG + "tda", 0, 0, 0, 0);
        told(books, 0, false, books, 0, 0, 0, 0);
        told(TAG + "tda", 0, true, TAG + "tda", 0, 0);
        told(TAG + "-tda", 0, true, TAG + "tda", 0, 0);
        told("XN--TDA." + codes(220), 0, true, TAG + "tda." + TAG + "tda", 0, 0, 0);
        told(codes(252) + ".", 0, true, TAG + "tda.", 0, 0, 0);
        told("." + codes(252), 0, true, "." + TAG + "tda", 0, 0, 0);
        told(codes(1114111), 0, true, TAG + "dn32g", rules(1, 8), rules(8));
        told(TAG + "a-", 0, true, TAG + "a-", rules(2), rules(2));
        told(TAG + codes(252), 0, true, TAG + packed(TAG + codes(252)), rules(2), rules(2));
        told("-" + codes(252), HYPHENS, true, TAG + packed("-" + codes(252)), rules(5), rules(5));
        String far = codes(IntStream.range(0, 48).map(i -> 1114111 - 20000 * i).toArray());
        told(far, LENGTH, true, TAG + packed(far), rules(1, 8, 11), rules(8, 11));
        told(repeated(codes(1114111, 46), 24), 0, true, repeated(TAG + "dn32g.", 24), rules(1, 8), eights(24));
    }

    /** What so many labels of forbidden codes and an empty one at the end broke. */
    private static int[] eights(int many) {
        int[] broken = new int[many + 1];
        Arrays.fill(broken, 0, many, rules(8));
        return broken;
    }

    private static void emptyLabelsBreakRule11() {
        sentence("The result: RULE 11 is broken (LENGTH on) if a label then is empty");
        told(".a", LENGTH, true, ".a", rules(11), rules(11), 0);
        told("a..b", LENGTH, true, "a..b", rules(11), 0, rules(11), 0);
        told("a..", LENGTH, true, "a..", rules(11), 0, rules(11), 0);
        told("..a", LENGTH, true, "..a", rules(11), rules(11), rules(11), 0);
        told("a." + codes(173) + ".b", LENGTH, true, "a..b", rules(11), 0, rules(11), 0);
        told("a." + codes(8204) + ".b", LENGTH + OLD, true, "a..b", rules(11), 0, rules(11), 0);
        told("a.b", LENGTH, true, "a.b", 0, 0, 0);
        int[] allButTheLast = new int[49];
        Arrays.fill(allButTheLast, 0, 48, rules(11));
        told(repeated(".", 48), LENGTH, true, repeated(".", 48), rules(11), allButTheLast);
    }

    private static void theLastLabelMayBeEmpty() {
        sentence("The result: .. but for the last one if there are others");
        told("a.", LENGTH, true, "a.", 0, 0, 0);
        told("a.b.", LENGTH, true, "a.b.", 0, 0, 0, 0);
        told("a." + codes(173), LENGTH, true, "a.", 0, 0, 0);
        told(".", LENGTH, true, ".", rules(11), rules(11), 0);
        told("", LENGTH, true, "", rules(11), rules(11));
        told(codes(173), LENGTH, true, "", rules(11), rules(11));
    }

    private static void longLabelsBreakRule11() {
        sentence("The result: .. or has more than 20 codes");
        told(A20, LENGTH, true, A20, 0, 0);
        told(A20 + "a", LENGTH, true, A20 + "a", rules(11), rules(11));
        told(A20 + "." + A20, LENGTH, true, A20 + "." + A20, 0, 0, 0);
        told(A20 + "." + A20 + "a", LENGTH, true, A20 + "." + A20 + "a", rules(11), 0, rules(11));
        told(A20 + "a." + A20, LENGTH, true, A20 + "a." + A20, rules(11), rules(11), 0);
        told("a." + A20 + "a.", LENGTH, true, "a." + A20 + "a.", rules(11), 0, rules(11), 0);
        told(repeated("a", 48), LENGTH, true, repeated("a", 48), rules(11), rules(11));
        told(repeated(codes(223), 10), LENGTH + OLD, true, repeated("s", 20), 0, 0);
        told(repeated(codes(223), 10) + "a", LENGTH + OLD, true, repeated("s", 20) + "a", rules(11), rules(11));
    }

    private static void packedLabelsAreMeasured() {
        sentence("The result: .. if a label then (once it is replaced) .. has more than 20 codes");
        String fits = repeated("a", 12) + codes(252);
        String longer = repeated("a", 13) + codes(252);
        due("length of a packed label", packed(fits).length() + 4, 20);
        due("length of a longer packed label", packed(longer).length() + 4, 21);
        told(fits, LENGTH, true, TAG + packed(fits), 0, 0);
        told(longer, LENGTH, true, TAG + packed(longer), rules(11), rules(11));
        // What was typed is longer than what is left of it.
        told(repeated("a", 12) + repeated(codes(173), 30) + codes(252), LENGTH, true, TAG + packed(fits), 0, 0);
        told(TAG + packed(longer), LENGTH, true, TAG + packed(longer), rules(11), rules(11));
        told(TAG + packed(fits), LENGTH, true, TAG + packed(fits), 0, 0);
        told(TAG + "-" + digits(252 - 128), LENGTH, true, TAG + "tda", 0, 0);
    }

    private static void aWholeOfNone() {
        sentence("The result: .. or the whole, without an empty last label and its dot, has none");
        told("", LENGTH, true, "", rules(11), rules(11));
        told(".", LENGTH, true, ".", rules(11), rules(11), 0);
        told("a", LENGTH, true, "a", 0, 0);
        told("a.", LENGTH, true, "a.", 0, 0, 0);
    }

    /** So many codes s, typed as 223 where two of them are due. */
    private static String oddFor(int many) {
        return repeated(codes(223), many / 2) + repeated("s", many % 2);
    }

    private static void aWholeOfMoreThan60() {
        sentence("The result: .. or more than 60");
        for (int last = 16; last <= 20; last++) {
            String text = oddFor(20) + "." + oddFor(20) + "." + oddFor(last);
            String whole = repeated("s", 20) + "." + repeated("s", 20) + "." + repeated("s", last);
            int wanted = whole.length() > 60 ? rules(11) : 0;
            told(text, LENGTH + OLD, true, whole, wanted, 0, 0, 0);
            told(text, OLD, true, whole, 0, 0, 0, 0);
        }
        String packed16 = TAG + packed(repeated("a", 8) + codes(252));
        due("length of a packed label", packed16.length(), 16);
        String three = repeated(repeated("a", 8) + codes(252) + ".", 3);
        told(three + "aaaaaaaaa", LENGTH, true, repeated(packed16 + ".", 3) + "aaaaaaaaa", 0, 0, 0, 0, 0);
        told(three + "aaaaaaaaaa", LENGTH, true, repeated(packed16 + ".", 3) + "aaaaaaaaaa", rules(11), 0, 0, 0, 0);
        told(repeated("a.", 23) + "a", LENGTH, true, repeated("a.", 23) + "a", 0, new int[24]);
    }

    private static void withoutAnEmptyLastLabel() {
        sentence("The result: the whole, without an empty last label and its dot");
        for (int last = 17; last <= 20; last++) {
            String text = oddFor(20) + "." + oddFor(20) + "." + oddFor(last) + ".";
            String whole = repeated("s", 20) + "." + repeated("s", 20) + "." + repeated("s", last) + ".";
            told(text, LENGTH + OLD, true, whole, last > 18 ? rules(11) : 0, 0, 0, 0, 0);
        }
        // A label that is empty but not the last one counts with its dot.
        String text = oddFor(20) + ".." + oddFor(20) + "." + oddFor(17);
        String whole = repeated("s", 20) + ".." + repeated("s", 20) + "." + repeated("s", 17);
        told(text, LENGTH + OLD, true, whole, rules(11), 0, rules(11), 0, 0);
    }

    private static void onlyWithTheOption() {
        sentence("The result: RULE 11 is broken (LENGTH on)");
        for (int options = 0; options <= 63; options++) {
            int wanted = (options & LENGTH) != 0 ? rules(11) : 0;
            due("process(" + options + ", true) of nothing", new HostNames().process(options, true), wanted);
            due("process(" + options + ", true) of .a", typed(".a").process(options, true), wanted);
            due("process(" + options + ", true) of 21", typed(A20 + "a").process(options, true), wanted);
            due("process(" + options + ", true) of 62", typed(threeOf20()).process(options, true), wanted);
        }
    }

    /** Three labels that are packed to 20 codes each: with the dots between them they are 62. */
    private static String threeOf20() {
        return repeated(repeated("a", 12) + codes(252) + ".", 3);
    }

    private static void onlyForAscii() {
        sentence("The result: For ASCII, ..; RULE 11 is broken");
        told("", LENGTH, false, "", 0, 0);
        told("..a", LENGTH, false, "..a", 0, 0, 0, 0);
        told(A20 + "a", ALL, false, A20 + "a", 0, 0);
        told(repeated(codes(223), 48), LENGTH + OLD, false, repeated("s", 96), 0, 0);
    }

    private static void lengthOfTheResult() {
        sentence("Promise 6: How many codes the result has");
        HostNames names = new HostNames();
        due("length() of a new object", names.length(), 0);
        names.process(ALL, false);
        due("length() of nothing", names.length(), 0);
        retype(names, repeated(codes(223), 48));
        due("length() before the text is processed", names.length(), 0);
        names.process(OLD, false);
        due("length() of 96", names.length(), 96);
        names.process(64, false);
        due("length() after a wrong process()", names.length(), 96);
        names.process(0, true);
        due("length() of what is packed", names.length(), 4 + packed(repeated(codes(223), 48)).length());
        names.compose();
        due("length() of what is composed", names.length(), 48);
        names.clear();
        due("length() after clear()", names.length(), 48);
        names.unpack();
        due("length() of nothing unpacked", names.length(), 0);
    }

    private static void codesOfTheResult() {
        sentence("Promise 7: Code i of the result; BAD when there is none");
        HostNames names = typed(codes(97, 1114111, 0));
        names.compose();
        due("at(0)", names.at(0), 97);
        due("at(1)", names.at(1), 1114111);
        due("at(2)", names.at(2), 0);
        for (int i : new int[] {3, 4, 48, 511, 512, 513, Integer.MAX_VALUE, -1, -2, -3, Integer.MIN_VALUE}) {
            due("at(" + i + ")", names.at(i), BAD);
        }
        // A shorter result shows nothing of a longer one before it.
        retype(names, "b");
        names.compose();
        due("at(0) of a shorter result", names.at(0), 98);
        due("at(1) of a shorter result", names.at(1), BAD);
        due("at(2) of a shorter result", names.at(2), BAD);
        names.clear();
        names.process(0, false);
        due("at(0) of an empty result", names.at(0), BAD);
        retype(names, repeated(codes(223), 48));
        names.process(OLD, true);
        due("at(95) of 96", names.at(95), 's');
        due("at(96) of 96", names.at(96), BAD);
    }

    private static void howManyLabels() {
        sentence("Promise 8: How many labels the latest process() found");
        HostNames names = new HostNames();
        names.process(0, false);
        due("labels() of nothing", names.labels(), 1);
        for (int dots = 1; dots <= 48; dots += 47) {
            retype(names, repeated(".", dots));
            names.process(0, true);
            due("labels() of " + dots + " dots", names.labels(), dots + 1);
        }
        retype(names, "a.b");
        names.process(64, true);
        names.pack();
        names.compose();
        names.unpack();
        due("labels() after all but process()", names.labels(), 49);
        names.process(0, true);
        names.clear();
        due("labels() of the latest text", names.labels(), 2);
        sentence("Promise 8: 0 before");
        names = typed("a.b");
        due("labels() at first", names.labels(), 0);
        names.pack();
        names.compose();
        names.unpack();
        names.process(-1, false);
        names.process(64, false);
        due("labels() before process()", names.labels(), 0);
    }

    private static void whatLabelsBroke() {
        sentence("Promise 9: The rules that label k (from 0) broke then");
        HostNames names = typed("-a.b.ab--c.-.");
        names.process(HYPHENS, false);
        int[] wanted = {rules(5), 0, rules(4), rules(5), 0};
        for (int k = 0; k < wanted.length; k++) {
            due("broken(" + k + ")", names.broken(k), wanted[k]);
        }
        names.process(64, false);
        retype(names, "tda");
        names.unpack();
        names.pack();
        names.compose();
        holds("all but process()", names, "tda", "tda", wanted);
        retype(names, "a.-b");
        names.process(HYPHENS, false);
        holds("the latest process()", names, "a.-b", "a.-b", 0, rules(5));
        retype(names, repeated(".", 47) + "-");
        names.process(HYPHENS, false);
        due("broken(47) of 48", names.broken(47), rules(5));
        due("broken(48) of 48", names.broken(48), BAD);
        sentence("Promise 9: BAD when there is none");
        due("broken(0) of a new object", new HostNames().broken(0), BAD);
        for (int k : new int[] {48, 49, 50, 512, Integer.MAX_VALUE, -1, -2, -48, Integer.MIN_VALUE}) {
            due("broken(" + k + ")", names.broken(k), BAD);
        }
        retype(names, repeated(".", 48));
        names.process(0, false);
        due("broken(48) of 49", names.broken(48), 0);
        due("broken(49) of 49", names.broken(49), BAD);
        names.clear();
        names.process(0, false);
        due("broken(0) of nothing", names.broken(0), 0);
        due("broken(1) of nothing", names.broken(1), BAD);
    }

    private static void rule1IsNoLabels() {
        sentence("Promise 9: (rule 1 is no label's");
        told(codes(256), 0, false, codes(256), rules(1, 8), rules(8));
        told("!", STRICT, false, "!", rules(1, 8), rules(8));
        told(codes(65281), STRICT, false, "!", rules(1, 8), rules(8));
        told(TAG + codes(256) + ".a", 0, false, TAG + codes(256) + ".a", rules(1, 2), rules(2), 0);
    }

    private static void rule11OfALabel() {
        sentence("Promise 9: rule 11 is broken by a label that is empty, when it must not be, or too long)");
        told("", LENGTH, true, "", rules(11), rules(11));
        told("..", LENGTH, true, "..", rules(11), rules(11), rules(11), 0);
        told(A20 + "a..b", LENGTH, true, A20 + "a..b", rules(11), rules(11), rules(11), 0);
        told(threeOf20(), LENGTH, true, repeated(TAG + packed(repeated("a", 12) + codes(252)) + ".", 3), rules(11),
            0, 0, 0, 0);
        // It stands beside the other rules of the label.
        told("-" + A20 + ".-", LENGTH + HYPHENS, true, "-" + A20 + ".-", rules(5, 11), rules(5, 11), rules(5));
        // What another process() finds takes its place.
        HostNames names = typed(A20 + "a");
        names.process(LENGTH, true);
        due("broken(0) with LENGTH", names.broken(0), rules(11));
        names.process(0, true);
        due("broken(0) without LENGTH", names.broken(0), 0);
    }
}
