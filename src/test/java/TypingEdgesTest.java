/** Promises 1 to 4: each sentence of the document that names an edge of typing, by itself. */
public final class TypingEdgesTest extends Due {
    private static final String FULL = repeated("abcdefgh", 6);
    private static final long EIGHT = 0x7172737475767778L;

    public static void main(String[] args) {
        nothingIsTypedAtFirst();
        theResultIsEmptyAtFirst();
        putsBehindTheText();
        putRefusesWhatIsNoCode();
        putRefusesHalves();
        putRefusesWhenFull();
        typesTheLowestBytes();
        typesTheHighestFirst();
        typeRefusesWrongNumbers();
        typeRefusesWhatIsTooLong();
        clearForgetsTheText();
        clearAnswersHowMany();
        atMost512Calls();
        end();
    }

    private static void nothingIsTypedAtFirst() {
        sentence("Promise 1: Nothing is typed");
        due("clear()", new HostNames().clear(), 0);
        due("pack()", new HostNames().pack(), 0);
        due("compose()", new HostNames().compose(), 0);
        due("unpack()", new HostNames().unpack(), true);
        due("process(63, false)", new HostNames().process(ALL, false), 0);
        HostNames other = typed(FULL);
        holds("another object is full", new HostNames(), "", "");
        due("clear() of the other object", other.clear(), 48);
    }

    private static void theResultIsEmptyAtFirst() {
        sentence("Promise 1: the result is empty");
        HostNames other = busy("c");
        HostNames names = new HostNames();
        due("length()", names.length(), 0);
        for (int i : new int[] {-1, 0, 1, 511, 512, Integer.MIN_VALUE, Integer.MAX_VALUE}) {
            due("at(" + i + ")", names.at(i), BAD);
        }
        names.put(97);
        names.type(98, 1);
        due("length() of what is only typed", names.length(), 0);
        due("at(0) of what is only typed", names.at(0), BAD);
        names.clear();
        due("length() after clear()", names.length(), 0);
        stillBusy("another object was made", other, "c");
    }

    private static void putsBehindTheText() {
        sentence("Promise 2: Puts a code behind the text: true");
        HostNames names = busy("");
        due("put(98)", names.put(98), true);
        due("put(97)", names.put(97), true);
        due("put(97) again", names.put(97), true);
        stillBusy("put()", names, "baa");
    }

    private static void putRefusesWhatIsNoCode() {
        sentence("Promise 2: false, changing nothing, when it is not 0 .. 1114111");
        for (int code : new int[] {-1, -2, -97, 1114112, 1114113, 16777313, Integer.MIN_VALUE, Integer.MAX_VALUE}) {
            HostNames names = busy("ab");
            due("put(" + code + ")", names.put(code), false);
            stillBusy("put(" + code + ")", names, "ab");
        }
        for (int code : new int[] {0, 1, 127, 128, 255, 256, 65535, 65536, 1114110, 1114111}) {
            HostNames names = busy("ab");
            due("put(" + code + ")", names.put(code), true);
            stillBusy("put(" + code + ")", names, "ab" + codes(code));
        }
    }

    private static void putRefusesHalves() {
        sentence("Promise 2: false, changing nothing, when it .. is 55296 .. 57343");
        // An object is good for 512 calls, so each block of 256 codes has its own.
        for (int first = 55296; first <= 57343; first += 256) {
            HostNames refusing = busy("ab");
            for (int code = first; code < first + 256; code++) {
                due("put(" + code + ")", refusing.put(code), false);
            }
            stillBusy("put() of 256 codes from " + first, refusing, "ab");
        }
        for (int code : new int[] {55294, 55295, 57344, 57345}) {
            HostNames taking = busy("ab");
            due("put(" + code + ")", taking.put(code), true);
            stillBusy("put(" + code + ")", taking, "ab" + codes(code));
        }
    }

    private static void putRefusesWhenFull() {
        sentence("Promise 2: false, changing nothing, when .. the text has 48");
        HostNames names = busy(FULL.substring(0, 47));
        due("put() behind 47", names.put('h'), true);
        for (int code : new int[] {97, 0, 1114111, 55296, -1}) {
            due("put(" + code + ") behind 48", names.put(code), false);
        }
        stillBusy("put() behind 48", names, FULL);
        due("put() after clear()", names.put('z'), true);
        due("clear() of one", names.clear(), 1);
    }

    private static void typesTheLowestBytes() {
        sentence("Promise 3: Puts the n lowest bytes of codes behind the text");
        for (int n = 1; n <= 8; n++) {
            HostNames names = busy("ab");
            due("type(.., " + n + ")", names.type(EIGHT, n), true);
            stillBusy("type(.., " + n + ")", names, "ab" + "qrstuvwx".substring(8 - n));
        }
        for (int code = 0; code <= 255; code++) {
            HostNames names = busy("ab");
            due("type(" + code + ", 1)", names.type(code, 1), true);
            stillBusy("type(" + code + ", 1)", names, "ab" + codes(code));
        }
    }

    private static void typesTheHighestFirst() {
        sentence("Promise 3: the highest of them first: true");
        typedBytes(-1L, 8, codes(255, 255, 255, 255, 255, 255, 255, 255));
        typedBytes(0L, 8, codes(0, 0, 0, 0, 0, 0, 0, 0));
        typedBytes(Long.MIN_VALUE, 8, codes(128, 0, 0, 0, 0, 0, 0, 0));
        typedBytes(Long.MAX_VALUE, 8, codes(127, 255, 255, 255, 255, 255, 255, 255));
        typedBytes(Long.MIN_VALUE, 7, codes(0, 0, 0, 0, 0, 0, 0));
        typedBytes(0x00000000ff000000L, 4, codes(255, 0, 0, 0));
        typedBytes(0x000000ff80000001L, 5, codes(255, 128, 0, 0, 1));
        typedBytes(-256L, 2, codes(255, 0));
    }

    private static void typedBytes(long codes, int n, String wanted) {
        HostNames names = busy("");
        due("type(" + codes + ", " + n + ")", names.type(codes, n), true);
        stillBusy("type(" + codes + ", " + n + ")", names, wanted);
    }

    private static void typeRefusesWrongNumbers() {
        sentence("Promise 3: false, changing nothing, when n is not 1 .. 8");
        for (int n : new int[] {0, -1, -8, 9, 10, 64, 256, 257, Integer.MIN_VALUE, Integer.MAX_VALUE}) {
            for (String text : new String[] {"", "ab", FULL}) {
                HostNames names = busy(text);
                due("type(.., " + n + ") behind " + text.length(), names.type(EIGHT, n), false);
                stillBusy("type(.., " + n + ") behind " + text.length(), names, text);
            }
        }
    }

    private static void typeRefusesWhatIsTooLong() {
        sentence("Promise 3: false, changing nothing, when .. the text would have more than 48");
        for (int n = 1; n <= 8; n++) {
            for (int size = 40; size <= 48; size++) {
                String text = FULL.substring(0, size);
                boolean fits = size + n <= 48;
                HostNames names = busy(text);
                String call = "type(.., " + n + ") behind " + size;
                due(call, names.type(EIGHT, n), fits);
                stillBusy(call, names, fits ? text + "qrstuvwx".substring(8 - n) : text);
            }
        }
    }

    private static void clearForgetsTheText() {
        sentence("Promise 4: Nothing is typed");
        for (String text : new String[] {"", "a", FULL}) {
            HostNames names = busy(text);
            names.clear();
            stillBusy("clear() of " + text.length(), names, "");
            names.put('y');
            names.type('z', 1);
            names.compose();
            due("typed after clear() of " + text.length(), result(names), "yz");
        }
        HostNames names = busy(FULL);
        names.clear();
        for (int i = 0; i < 6; i++) {
            due("type() after clear()", names.type(EIGHT, 8), true);
        }
        due("put() when full again", names.put(97), false);
        stillBusy("typing after clear()", names, repeated("qrstuvwx", 6));
    }

    private static void clearAnswersHowMany() {
        sentence("Promise 4: answers how many codes were");
        for (int size = 0; size <= 48; size++) {
            HostNames names = typed(FULL.substring(0, size));
            due("clear() of " + size, names.clear(), size);
            due("clear() again", names.clear(), 0);
        }
        HostNames names = typed(codes(1114111, 65536, 0));
        due("clear() counts codes", names.clear(), 3);
    }

    private static void atMost512Calls() {
        sentence("What it is: An object is used for at most 512 calls after it has been made");
        HostNames names = new HostNames();
        for (int round = 0; round < 512 / 16; round++) {
            sixteenCalls(names, "round " + round, round == 0 ? 0 : 48);
        }
    }

    private static void sixteenCalls(HostNames names, String round, int typedBefore) {
        due(round + ": clear()", names.clear(), typedBefore);
        for (int i = 0; i < 6; i++) {
            due(round + ": type()", names.type(0x717273747576772dL, 8), true);
        }
        due(round + ": put()", names.put(97), false);
        due(round + ": process()", names.process(ALL, true), rules(5, 11));
        due(round + ": labels()", names.labels(), 1);
        due(round + ": broken(0)", names.broken(0), rules(5, 11));
        due(round + ": pack()", names.pack(), 49);
        due(round + ": compose()", names.compose(), 48);
        due(round + ": unpack()", names.unpack(), true);
        due(round + ": length()", names.length(), 47);
        due(round + ": at(46)", names.at(46), 'w');
    }
}
