/** Promises 10 and 11: pack, unpack. */
public final class PackTest {
    /** Names and their packed forms; most are the samples of RFC 3492. */
    private static final String[][] SAMPLES = {
        {"", ""},
        {"abc", "abc-"},
        {"-", "--"},
        {"a-c", "a-c-"},
        {"b\u00fccher", "bcher-kva"},
        {"\u00fc", "tda"},
        {"\u0644\u064a\u0647\u0645\u0627\u0628\u062a\u0643\u0644\u0645\u0648\u0634\u0639\u0631\u0628\u064a\u061f",
            "egbpdaj6bu4bxfgehfvwxn"},
        {"\u4ed6\u4eec\u4e3a\u4ec0\u4e48\u4e0d\u8bf4\u4e2d\u6587", "ihqwcrb4cv8a8dqg056pqjye"},
        {"\u5b89\u5ba4\u5948\u7f8e\u6075-with-SUPER-MONKEYS", "-with-SUPER-MONKEYS-pc58ag80a8qai00g7n9n"},
        {"3\u5e74B\u7d44\u91d1\u516b\u5148\u751f", "3B-ww4c5e180e575a65lsy2b"},
        {"Hello-Another-Way-\u305d\u308c\u305e\u308c\u306e\u5834\u6240", "Hello-Another-Way--fc4qua05auwb3674vfr0b"},
        {"\u3072\u3068\u3064\u5c4b\u6839\u306e\u4e0b2", "2-u9tlzr9756bt3uc0v"},
        {"Maji\u3067Koi\u3059\u308b5\u79d2\u524d", "MajiKoi5-783gue6qz075azm5e"},
        {"\u305d\u306e\u30b9\u30d4\u30fc\u30c9\u3067", "d9juau41awczczp"},
        {"-> $1.00 <-", "-> $1.00 <--"},
    };

    public static void main(String[] args) {
        for (String[] sample : SAMPLES) {
            packSample(sample[0], sample[1]);
            unpackSample(sample[1], sample[0]);
        }
        nothingIsMapped();
        edgesOfCodes();
        capitalsAreDigits();
        hyphensBeforeDigits();
        failures();
        failureChangesNothing();
        greatestNumbers();
        Due.end();
    }

    private static void packSample(String plain, String packed) {
        HostNames names = Due.typed(plain);
        Due.due("pack() of " + packed, names.pack(), packed.length());
        Due.due("packed", Due.result(names), packed);
        Due.due("clear() after pack()", names.clear(), plain.codePointCount(0, plain.length()));
    }

    private static void unpackSample(String packed, String plain) {
        HostNames names = Due.typed(packed);
        Due.due("unpack() of " + packed, names.unpack(), true);
        Due.due("unpacked " + packed, Due.result(names), plain);
        Due.due("clear() after unpack()", names.clear(), packed.length());
    }

    private static void nothingIsMapped() {
        HostNames names = Due.typed("A\u00c0\u00ad.\u00df");
        names.pack();
        String packed = Due.result(names);
        Due.due("head of packed", packed.substring(0, 3), "A.-");
        Due.retype(names, packed);
        Due.due("unpack() again", names.unpack(), true);
        Due.due("there and back", Due.result(names), "A\u00c0\u00ad.\u00df");
        Due.due("labels() of no process()", names.labels(), 0);
    }

    private static void edgesOfCodes() {
        HostNames names = Due.typed("\u007f\u0080");
        names.pack();
        Due.due("127 is below 128, 128 is not", Due.result(names), "\u007f-" + digitsOfOne());
        StringBuilder great = new StringBuilder();
        for (int i = 0; i < 48; i++) {
            great.appendCodePoint(1114111 - 20000 * (i % 48));
        }
        thereAndBack(great.toString());
        thereAndBack(new StringBuilder().appendCodePoint(1114111).appendCodePoint(128).toString());
        thereAndBack(Due.repeated("\u00fc", 48));
    }

    /** 128 behind one code below it: delta 1, which is not below its t of 1. */
    private static String digitsOfOne() {
        return "ba";
    }

    private static void thereAndBack(String plain) {
        HostNames names = Due.typed(plain);
        names.pack();
        String packed = Due.result(names);
        if (packed.length() <= 48) {
            Due.retype(names, packed);
            Due.due("unpack() of packed", names.unpack(), true);
            Due.due("there and back", Due.result(names), plain);
        } else {
            Due.due("all digits", packed.matches("[a-z0-9]*"), true);
        }
    }

    private static void capitalsAreDigits() {
        HostNames names = Due.typed("bcher-KVA");
        Due.due("unpack() of capitals", names.unpack(), true);
        Due.due("capitals", Due.result(names), "b\u00fccher");
    }

    private static void hyphensBeforeDigits() {
        HostNames names = Due.typed("-tda");
        Due.due("unpack() of a hyphen and digits", names.unpack(), true);
        Due.due("the one hyphen goes", Due.result(names), "\u00fc");
        Due.retype(names, "--tda");
        Due.due("unpack() of two hyphens and digits", names.unpack(), true);
        Due.due("the last hyphen goes", Due.result(names), "\u00be-");
        Due.retype(names, "-");
        Due.due("unpack() of a hyphen", names.unpack(), true);
        Due.due("a hyphen alone", names.length(), 0);
    }

    private static void failures() {
        String[] failing = {
            "bcher-kv", "bcher-k", "b", "tda9", "\u00fc-tda", "\u0080-", "t\u00fca", "td a", "td/a", "td:a", "td@a",
            "td[a", "td`a", "td{a", "99999999", "99999999a", "a.b-t.a", "\uff41", "9999999999999"};
        for (String text : failing) {
            Due.due("unpack() of " + text, Due.typed(text).unpack(), false);
        }
    }

    private static void failureChangesNothing() {
        HostNames names = Due.typed("-a.b");
        names.process(HostNames.HYPHENS, false);
        Due.retype(names, "abc-kv");
        Due.due("failing unpack()", names.unpack(), false);
        Due.due("result stays", Due.result(names), "-a.b");
        Due.due("labels() stays", names.labels(), 2);
        Due.due("broken(0) stays", names.broken(0), 16);
        Due.due("text stays", names.clear(), 6);
    }

    /** The first number has t = 1, 1, 26, 26, ..: the greatest code that is taken, and the next one. */
    private static void greatestNumbers() {
        Due.due("n = 1114111", Due.typed(Due.digits(1114111 - 128)).unpack(), true);
        Due.due("n = 1114112", Due.typed(Due.digits(1114112 - 128)).unpack(), false);
        // Behind 47 codes the place is taken modulo 48, so far greater numbers are due to be read.
        String codes = Due.repeated("a", 37) + "-";
        Due.due("a great number", Due.typed(codes + Due.digits(38L * (1114112 - 128) - 1)).unpack(), true);
        Due.due("too great a number", Due.typed(codes + Due.digits(38L * (1114112 - 128))).unpack(), false);
        Due.due("more than an int", Due.typed(codes + Due.digits(2147483648L)).unpack(), false);
    }
}
