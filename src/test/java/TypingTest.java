/** Promises 1 to 4: a new object, put, type, clear. */
public final class TypingTest {
    public static void main(String[] args) {
        newObject();
        putEdges();
        putWhenFull();
        typeOrder();
        typeWrong();
        typeWhenNearlyFull();
        clearKeepsResult();
        Due.end();
    }

    private static void newObject() {
        HostNames names = new HostNames();
        Due.due("new length()", names.length(), 0);
        Due.due("new at(0)", names.at(0), HostNames.BAD);
        Due.due("new labels()", names.labels(), 0);
        Due.due("new broken(0)", names.broken(0), HostNames.BAD);
        Due.due("new clear()", names.clear(), 0);
        Due.due("new pack()", new HostNames().pack(), 0);
        Due.due("new compose()", new HostNames().compose(), 0);
    }

    private static void putEdges() {
        HostNames names = new HostNames();
        int[] taken = {0, 1, 127, 128, 55295, 57344, 65535, 65536, 1114111};
        int[] refused = {-1, 55296, 56000, 57343, 1114112, Integer.MIN_VALUE, Integer.MAX_VALUE};
        for (int code : taken) {
            Due.due("put(" + code + ")", names.put(code), true);
        }
        for (int code : refused) {
            Due.due("put(" + code + ")", names.put(code), false);
        }
        Due.due("compose() of what was put", names.compose(), taken.length);
        for (int i = 0; i < taken.length; i++) {
            Due.due("at(" + i + ") of what was put", names.at(i), taken[i]);
        }
        Due.due("clear() of what was put", names.clear(), taken.length);
    }

    private static void putWhenFull() {
        HostNames names = new HostNames();
        for (int i = 0; i < 48; i++) {
            Due.due("put() number " + i, names.put(97 + i % 26), true);
        }
        Due.due("put() number 48", names.put(97), false);
        Due.due("type() when full", names.type(97, 1), false);
        Due.due("clear() when full", names.clear(), 48);
        Due.due("put() after clear()", names.put(98), true);
        names.compose();
        Due.due("text after clear() and put()", Due.result(names), "b");
    }

    private static void typeOrder() {
        HostNames names = new HostNames();
        Due.due("type(all, 8)", names.type(0x6162636465666768L, 8), true);
        Due.due("type(high bytes left, 3)", names.type(0x6162636465666768L, 3), true);
        Due.due("type(-1, 8)", names.type(-1L, 8), true);
        Due.due("type(0, 2)", names.type(0L, 2), true);
        Due.due("type(.., 1)", names.type(0x6162L, 1), true);
        Due.due("type(MIN, 8)", names.type(Long.MIN_VALUE, 8), true);
        names.compose();
        String wanted = "abcdefgh" + "fgh" + Due.repeated("\u00ff", 8) + Due.repeated("\u0000", 2) + "b\u0080"
            + Due.repeated("\u0000", 7);
        Due.due("what was typed", Due.result(names), wanted);
    }

    private static void typeWrong() {
        HostNames names = Due.typed("ab");
        int[] wrong = {0, -1, 9, 16, Integer.MIN_VALUE, Integer.MAX_VALUE};
        for (int n : wrong) {
            Due.due("type(97, " + n + ")", names.type(97L, n), false);
        }
        Due.due("clear() after wrong type()", names.clear(), 2);
    }

    private static void typeWhenNearlyFull() {
        HostNames names = Due.typed(Due.repeated("a", 41));
        Due.due("type(.., 8) behind 41", names.type(0L, 8), false);
        Due.due("type(.., 7) behind 41", names.type(0x62626262626262L, 7), true);
        Due.due("type(.., 1) behind 48", names.type(98L, 1), false);
        names.compose();
        Due.due("text of 48", Due.result(names), Due.repeated("a", 41) + Due.repeated("b", 7));
        Due.due("clear() of 48", names.clear(), 48);
    }

    private static void clearKeepsResult() {
        HostNames names = Due.typed("-a.b");
        names.process(HostNames.HYPHENS, false);
        Due.due("clear()", names.clear(), 4);
        Due.due("clear() again", names.clear(), 0);
        Due.due("result after clear()", Due.result(names), "-a.b");
        Due.due("labels() after clear()", names.labels(), 2);
        Due.due("broken(0) after clear()", names.broken(0), 16);
    }
}
