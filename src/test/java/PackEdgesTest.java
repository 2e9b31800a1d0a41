/** Packing and promise 10: each sentence that names an edge, by itself. The digits are those of Python's punycode. */
public final class PackEdgesTest extends Due {
    public static void main(String[] args) {
        codesBelow128ComeFirst();
        aHyphenIfThereAreSome();
        theBeginning();
        theLeastCode();
        codesBelowAndEqual();
        thresholds();
        digitsOfNumbers();
        everySingleCode();
        theFirstNumberIsDividedBy700();
        laterNumbersAreDividedBy2();
        growingByHowMany();
        above455();
        theResultBecomesPacked();
        nothingIsMappedOrChecked();
        answersHowMany();
        end();
    }

    private static void packs(String text, String wanted) {
        HostNames names = busy(text);
        due("pack() of " + shown(text), names.pack(), wanted.length());
        holds("pack() of " + shown(text), names, text, wanted, rules(5), 0);
    }

    private static void codesBelow128ComeFirst() {
        sentence("Packing: the codes below 128 come first, in order");
        packs(codes(252) + "ba", "ba-wka");
        packs("b" + codes(252) + "a", "ba-xka");
        packs("ba" + codes(252), "ba-yka");
        packs(codes(127), codes(127, 45));
        packs(codes(128), "a");
        packs(codes(127, 128), codes(127) + "-ba");
        packs(codes(128, 127), codes(127) + "-a");
        packs(codes(0, 128, 127), codes(0, 127) + "-ba");
    }

    private static void aHyphenIfThereAreSome() {
        sentence("Packing: then, if there are some, a hyphen");
        packs("", "");
        packs("a", "a-");
        packs("-", "--");
        packs("--", "---");
        packs(codes(252), "tda");
        packs("a-" + codes(252) + "-", "a---ioa");
        packs(repeated("-", 48), repeated("-", 49));
        packs(repeated("a", 48), repeated("a", 48) + "-");
    }

    private static void theBeginning() {
        sentence("Packing: n is 128, bias 72, delta 0, h the number of codes below 128 at first");
        packs(codes(128), "a");
        packs(codes(128, 128), "aa");
        packs(repeated(codes(128), 48), repeated("a", 48));
        // What an earlier packing left behind is not where the next one begins.
        HostNames names = typed(codes(128, 1114111));
        names.pack();
        retype(names, codes(128, 6441, 6428));
        names.pack();
        String first = result(names);
        names.pack();
        due("pack() twice", result(names), first);
        due("pack() of a new object", packed(codes(128, 6441, 6428)), first);
    }

    private static void theLeastCode() {
        sentence("Packing: m is the least code that is n or more; delta grows by (m - n) * (h + 1)");
        packs(codes(128, 1114111), "a08093t");
        packs(codes(1114111, 128), "a97093t");
        packs(codes(1114111), "dn32g");
        packs(repeated("a", 47) + codes(1114111), repeated("a", 47) + "-q83674b");
        packs(codes(1114111) + repeated("a", 47), repeated("a", 47) + "-e73674b");
        packs(codes(128, 153, 178, 203, 228, 253, 278, 303, 328, 353), "a4cyduepf9fzgshri8i");
    }

    private static void codesBelowAndEqual() {
        sentence("Packing: if c is below n, delta grows by 1; if c is n, delta is written, .., delta becomes 0");
        packs(codes(252, 252, 97, 252), "a-dhaab");
        packs(repeated(codes(1114111), 48), "dn32g" + repeated("a", 47));
        packs(repeated(codes(1114111, 128), 24), repeated("a", 24) + "566069ybab" + repeated("b", 21));
        sentence("Packing: behind all codes delta and n grow by 1");
        packs(run(1114064, 1), "0l32gcadefghijklmnopqrstuvwxyz0a1a2a3a4a5a6a7a8a9azb0b1b1b2b3b4b5b6b6b7b8b9b");
        packs(run(1114111, -1), "0l32gbacdefghijklmnopqrstuvwxyz0a1a2a3a4a5a6a7a8a9azb0b1b1b2b3b4b5b6b6b7b8b");
    }

    /** A full text of codes that are step apart. */
    private static String run(int first, int step) {
        StringBuilder text = new StringBuilder();
        for (int i = 0; i < 48; i++) {
            text.appendCodePoint(first + step * i);
        }
        return text.toString();
    }

    private static void thresholds() {
        sentence("Packing: t is k - bias, but at least 1 and at most 26; while q is at least t");
        packs(codes(129), "ba");
        packs(codes(163), "9a");
        packs(codes(164), "bba");
        packs(codes(1388), "99a");
        packs(codes(1389), "bbb");
        packs(codes(6440, 6427), "8efz");
        packs(codes(6441, 6428), "9efza");
        packs(run(1114111, -20000),
            "795l365ij89byk7cew1dt7re8j4eovuf365fjjtgyu3ge6uhti4h8tmio52i3hsjjtzjy4nkeh4ktshl83xloglm3r1mj35myfsner8n"
            + "t2uo8ehpoqip31ypjekqyp0qe1lrtd2r8onso03s3cptjomtyz2tecnutn3u8ynvob4v3mowjy4wy9oxem5xtxpy");
    }

    private static void digitsOfNumbers() {
        sentence("Packing: Digits 0 .. 25 are 97 .. 122, 26 .. 35 are 48 .. 57");
        packs(codes(128), "a");
        for (int digit = 1; digit < 36; digit++) {
            packs(codes(128 + digit), DIGITS.charAt(digit) + "a");
        }
        packs(codes(1413), "zbb");
        packs(codes(1414), "0bb");
    }

    private static void everySingleCode() {
        sentence("Packing (of codes all of 0 .. 1114111)");
        int wrong = 0;
        HostNames names = new HostNames();
        for (int code = 0; code <= 1114111; code++) {
            // An object is good for 512 calls.
            names = code % 32 == 0 ? new HostNames() : names;
            names.clear();
            boolean isTyped = names.put(code);
            String wanted = code < 128 ? codes(code, 45) : digits(code - 128);
            boolean fits = !isTyped || names.pack() == wanted.length() && result(names).equals(wanted);
            wrong += fits ? 0 : 1;
            if (!fits && wrong < 20) {
                due("the code " + code + ", packed", result(names), wanted);
            }
        }
        due("codes that are not packed as due", wrong, 0);
    }

    private static void theFirstNumberIsDividedBy700() {
        sentence("Packing: d is divided by 700 if first");
        packs(codes(6440, 6427), "8efz");
        packs(codes(6441, 6428), "9efza");
        packs(codes(40027, 40047), "8t6aob");
        packs(codes(40028, 40048), "9t6anb");
    }

    private static void laterNumbersAreDividedBy2() {
        sentence("Packing: else by 2");
        packs(codes(128, 60000, 59999), "a6580jca");
        packs(codes(128, 20000, 20002), "a8580bga");
        packs("a" + codes(252, 480, 489), "a-eha89dbb");
    }

    private static void growingByHowMany() {
        sentence("Packing: d grows by d / many");
        packs("ab" + codes(252, 434, 443), "ab-yka24emb");
        packs("abc" + codes(252, 404, 413), "abc-joa47etb");
        packs("abcd" + codes(252, 382, 391), "abcd-3ra49e4b");
    }

    private static void above455() {
        sentence("Packing: while d is above 455, d is divided by 35, and k grows by 36");
        packs("abc" + codes(63827, 63847), "abc-881s8c");
        packs("abc" + codes(63828, 63848), "abc-d91s8c");
        packs("abc" + codes(64002, 64022), "abc-8t2s8c");
        packs("abc" + codes(64003, 64023), "abc-du2s4c");
        packs("ab" + codes(252, 434, 443), "ab-yka24emb");
        packs("a" + codes(252, 480, 489), "a-eha89dbb");
        packs(codes(159727, 159747), "8j4khb");
        packs(codes(159728, 159748), "9j4kfb");
        packs(codes(128, 700000, 699999), "a65801lca");
        packs(codes(128, 1114111, 1114110), "a87093tca");
    }

    private static void theResultBecomesPacked() {
        sentence("Promise 10: The result becomes the text, packed");
        HostNames names = typed(repeated("a", 48));
        names.pack();
        retype(names, codes(252));
        due("pack() behind a longer result", names.pack(), 3);
        holds("pack() behind a longer result", names, codes(252), "tda");
        names.pack();
        due("pack() of nothing behind a result", names.length(), 0);
    }

    private static void nothingIsMappedOrChecked() {
        sentence("Promise 10: (nothing is mapped or checked)");
        packs("AZ", "AZ-");
        packs("XN--", "XN---");
        packs(TAG + "tda", TAG + "tda-");
        packs("a..b.", "a..b.-");
        packs(codes(192), digits(192 - 128));
        packs(codes(173), digits(173 - 128));
        packs(codes(97, 768), "a-" + digits((768 - 128) * 2 + 1));
        packs(codes(223), "zca");
        packs(codes(962), "3xa");
        packs(codes(8204), "0ug");
        packs(codes(12290), digits(12290 - 128));
        packs(codes(65313), digits(65313 - 128));
        packs(codes(0, 127), codes(0, 127) + "-");
    }

    private static void answersHowMany() {
        sentence("Promise 10: how many codes it has");
        due("pack() of nothing", new HostNames().pack(), 0);
        for (int size = 1; size <= 48; size++) {
            due("pack() of " + size, typed(repeated("a", size)).pack(), size + 1);
            due("pack() of " + size + " times 128", typed(repeated(codes(128), size)).pack(), size);
        }
        HostNames names = typed(run(1114111, -20000));
        due("pack() of far codes", names.pack(), 192);
        due("length() of far codes", names.length(), 192);
        due("at(191) of far codes", names.at(191), 'y');
        due("at(192) of far codes", names.at(192), BAD);
    }
}
