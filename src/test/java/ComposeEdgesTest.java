/** Composed form and promise 12: each sentence that names an edge, by itself. */
public final class ComposeEdgesTest extends Due {
    private static final int[] MARKS = {768, 769, 776, 807, 1614, 2381};
    /** Letter, mark and the one code for both. */
    private static final int[][] PAIRS = {
        {97, 768, 224}, {101, 768, 232}, {105, 768, 236}, {111, 768, 242}, {117, 768, 249},
        {97, 769, 225}, {101, 769, 233}, {105, 769, 237}, {111, 769, 243}, {117, 769, 250}, {121, 769, 253},
        {97, 776, 228}, {101, 776, 235}, {105, 776, 239}, {111, 776, 246}, {117, 776, 252}, {121, 776, 255},
        {99, 807, 231}};

    public static void main(String[] args) {
        pairsAreOneCode();
        noOthersAreAPair();
        pairsAreTakenApart();
        marksAreExchanged();
        equalOrdersAreNotExchanged();
        startersAreNotPassed();
        marksJoinFromLeftToRight();
        marksJoinTheLatestStarter();
        startersThatCameOfAPair();
        marksWithoutAStarter();
        marksBetweenThem();
        theOneCodeTakesTheStartersPlace();
        theResultBecomesTheForm();
        answersHowMany();
        end();
    }

    private static void form(String text, String wanted) {
        HostNames names = busy(text);
        due("compose() of " + shown(text), names.compose(), count(wanted));
        holds("compose() of " + shown(text), names, text, wanted, rules(5), 0);
    }

    private static void stays(int... codes) {
        form(codes(codes), codes(codes));
    }

    private static void pairsAreOneCode() {
        sentence("Codes: PAIRS (a letter and a mark are ONE code)");
        for (int[] pair : PAIRS) {
            form(codes(pair[0], pair[1]), codes(pair[2]));
        }
    }

    private static void noOthersAreAPair() {
        sentence("Composed form: .. and both are a pair");
        for (int code : tableCodes()) {
            for (int mark : MARKS) {
                boolean isHalf = code >= 55296 && code <= 57343;
                if (!isHalf && !isMark(code) && !isPair(code, mark)) {
                    HostNames names = typed(codes(code, mark));
                    due("compose() of " + code + ", " + mark, names.compose(), 2);
                    due("its first code", names.at(0), code);
                    due("its second code", names.at(1), mark);
                }
            }
        }
    }

    private static boolean isMark(int code) {
        boolean found = false;
        for (int mark : MARKS) {
            found |= mark == code;
        }
        return found;
    }

    private static boolean isPair(int letter, int mark) {
        boolean found = false;
        for (int[] pair : PAIRS) {
            found |= pair[0] == letter && pair[1] == mark;
        }
        return found;
    }

    private static void pairsAreTakenApart() {
        sentence("Composed form: first every code that is one for a pair is replaced by its letter and mark");
        for (int[] pair : PAIRS) {
            stays(pair[2]);
            stays(pair[2], 807);
            form(codes(pair[2], pair[1], 1614, 2381), codes(pair[2], 2381, 1614, pair[1]));
            String full = repeated(codes(pair[2]), 48);
            form(full, full);
        }
        form(codes(224, 807, 225, 2381, 231, 769, 1614), codes(224, 807, 225, 2381, 231, 1614, 769));
    }

    private static void marksAreExchanged() {
        sentence("Composed form: as long as two neighbours have orders a and b with a > b > 0, they are exchanged");
        int[] sorted = {2381, 1614, 807, 768};
        for (int n = 0; n < 24; n++) {
            form(codes(98) + codes(permuted(sorted, n)), codes(98) + codes(sorted));
            form(codes(permuted(sorted, n)), codes(sorted));
        }
        form(codes(98) + repeated(codes(769, 807, 1614), 15) + codes(2381, 2381),
            codes(98, 2381, 2381) + repeated(codes(1614), 15) + repeated(codes(807), 15) + repeated(codes(769), 15));
        form(repeated(codes(776), 24) + repeated(codes(2381), 24),
            repeated(codes(2381), 24) + repeated(codes(776), 24));
    }

    /** The n-th order, from 0, in which the codes can stand. */
    private static int[] permuted(int[] codes, int n) {
        int[] permuted = codes.clone();
        int rest = n;
        for (int size = codes.length; size > 1; size--) {
            int swapped = rest % size;
            rest /= size;
            int code = permuted[swapped];
            permuted[swapped] = permuted[size - 1];
            permuted[size - 1] = code;
        }
        return permuted;
    }

    private static void equalOrdersAreNotExchanged() {
        sentence("Composed form: .. with a > b > 0 (equal orders)");
        int[] equal = {768, 769, 776};
        for (int n = 0; n < 6; n++) {
            int[] marks = permuted(equal, n);
            stays(marks);
            form(codes(98) + codes(marks), codes(98) + codes(marks));
            form(codes(98, marks[0], marks[1], 807, marks[2], 2381), codes(98, 2381, 807) + codes(marks));
        }
        stays(98, 807, 769, 768);
    }

    private static void startersAreNotPassed() {
        sentence("Composed form: .. with a > b > 0 (b is 0)");
        stays(769, 98);
        stays(769, 98, 807);
        stays(98, 769, 46, 807);
        stays(769, 0, 807, 1114111, 2381);
        stays(2381, 8204, 1614, 8205, 9, 807);
        form(codes(769, 807, 98, 807, 2381), codes(807, 769, 98, 2381, 807));
    }

    private static void marksJoinFromLeftToRight() {
        sentence("Composed form: then, from left to right, each mark is joined");
        form(codes(97, 768, 769), codes(224, 769));
        form(codes(97, 769, 768), codes(225, 768));
        form(codes(97, 776, 769, 768), codes(228, 769, 768));
        form(codes(97, 769, 101, 768, 99, 807), codes(225, 232, 231));
        form(repeated(codes(121, 776), 24), repeated(codes(255), 24));
    }

    private static void marksJoinTheLatestStarter() {
        sentence("Composed form: with the latest code before it that has the order 0");
        form(codes(97, 101, 769), codes(97, 233));
        form(codes(98, 97, 769), codes(98, 225));
        form(codes(97, 807, 101, 769), codes(97, 807, 233));
        stays(97, 98, 769);
        stays(97, 46, 769);
        stays(97, 45, 769);
        stays(97, 0, 769);
        stays(97, 1114111, 769);
        stays(97, 8204, 769);
        stays(97, 173, 769);
    }

    private static void startersThatCameOfAPair() {
        sentence("Composed form: (a STARTER, perhaps one that came of a pair already)");
        form(codes(97, 769, 776), codes(225, 776));
        form(codes(97, 769, 769), codes(225, 769));
        form(codes(117, 776, 769), codes(252, 769));
        form(codes(99, 807, 807), codes(231, 807));
        form(codes(99, 807, 769), codes(231, 769));
        form(codes(121, 769, 776), codes(253, 776));
        stays(225, 776);
        stays(231, 769);
    }

    private static void marksWithoutAStarter() {
        sentence("Composed form: if there is one");
        for (int mark : MARKS) {
            stays(mark);
            stays(mark, mark);
            stays(mark, 97);
            form(codes(mark, 97, 769), codes(mark, 225));
            String full = repeated(codes(mark), 48);
            form(full, full);
        }
        stays(807, 769);
    }

    private static void marksBetweenThem() {
        sentence("Composed form: no code that still stands between has the same or a greater order than the mark's");
        stays(121, 768, 769);
        stays(121, 768, 776);
        stays(121, 768, 769, 776);
        form(codes(121, 768, 807, 769), codes(121, 807, 768, 769));
        form(codes(121, 807, 769), codes(253, 807));
        form(codes(121, 807, 807, 1614, 2381, 776), codes(255, 2381, 1614, 807, 807));
        form(codes(99, 1614, 807), codes(231, 1614));
        form(codes(99, 2381, 807), codes(231, 2381));
        form(codes(99, 769, 807), codes(231, 769));
        form(codes(99, 769, 807, 2381, 807), codes(231, 2381, 807, 769));
        form(codes(101) + repeated(codes(807), 46) + codes(768), codes(232) + repeated(codes(807), 46));
    }

    private static void theOneCodeTakesTheStartersPlace() {
        sentence("Composed form: the one code takes the starter's place, the mark goes");
        form(codes(98, 97, 2381, 807, 776, 98), codes(98, 228, 2381, 807, 98));
        form(codes(97, 807, 768, 111, 807, 776), codes(224, 807, 246, 807));
        form(codes(121, 807, 769, 769, 98), codes(253, 807, 769, 98));
    }

    private static void theResultBecomesTheForm() {
        sentence("Promise 12: The result becomes the text in composed form");
        stays();
        stays(65, 768);
        stays(192, 768);
        stays(173, 223, 962, 8204, 8205, 12290, 65313, 768);
        stays(128, 215, 247, 256, 1114111);
        form(TAG + codes(97, 776), TAG + codes(228));
        HostNames names = typed(repeated("a", 48));
        names.pack();
        retype(names, "b");
        due("compose() behind a longer result", names.compose(), 1);
        holds("compose() behind a longer result", names, "b", "b");
    }

    private static void answersHowMany() {
        sentence("Promise 12: how many codes it has");
        due("compose() of nothing", new HostNames().compose(), 0);
        for (int size = 1; size <= 48; size++) {
            due("compose() of " + size, typed(repeated("a", size)).compose(), size);
            due("compose() of " + size + " codes for pairs", typed(repeated(codes(252), size)).compose(), size);
            due("compose() of a letter and marks", typed("a" + repeated(codes(769), size - 1)).compose(),
                size == 1 ? 1 : size - 1);
        }
        due("compose() of 24 pairs", typed(repeated(codes(97, 768), 24)).compose(), 24);
    }
}
