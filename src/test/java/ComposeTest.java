/** Promise 12: compose. */
public final class ComposeTest {
    private static final String LETTERS = "aeiouaeiouyaeiouyc";
    private static final String MARKS =
        "\u0300\u0300\u0300\u0300\u0300\u0301\u0301\u0301\u0301\u0301\u0301\u0308\u0308\u0308\u0308\u0308\u0308\u0327";
    private static final int[] ONES =
        {224, 232, 236, 242, 249, 225, 233, 237, 243, 250, 253, 228, 235, 239, 246, 252, 255, 231};

    public static void main(String[] args) {
        everyPair();
        noOtherPair();
        samples();
        longTexts();
        Due.end();
    }

    private static void everyPair() {
        for (int i = 0; i < ONES.length; i++) {
            String one = String.valueOf((char) ONES[i]);
            form("" + LETTERS.charAt(i) + MARKS.charAt(i), one);
            form(one, one);
        }
    }

    private static void noOtherPair() {
        String marks = "\u0300\u0301\u0308\u0327\u064e\u094d";
        for (int letter = 0; letter < 1100; letter++) {
            for (int m = 0; m < marks.length(); m++) {
                String apart = "" + (char) letter + marks.charAt(m);
                boolean isPair = false;
                for (int i = 0; i < ONES.length; i++) {
                    isPair |= LETTERS.charAt(i) == letter && MARKS.charAt(i) == marks.charAt(m);
                }
                if (!isPair && marks.indexOf(letter) < 0 && !isOne(letter)) {
                    form(apart, apart);
                }
            }
        }
    }

    private static boolean isOne(int code) {
        for (int one : ONES) {
            if (one == code) {
                return true;
            }
        }
        return false;
    }

    private static void samples() {
        form("", "");
        form("\u0300", "\u0300");
        form("\u0301\u0327", "\u0327\u0301");
        form("\u0300\u0301", "\u0300\u0301");
        form("\u0301\u0300", "\u0301\u0300");
        form("a\u0327\u0301", "\u00e1\u0327");
        form("a\u0301\u0327", "\u00e1\u0327");
        form("a\u0301\u0300", "\u00e1\u0300");
        form("a\u0300\u0301", "\u00e0\u0301");
        form("b\u0301a\u0301", "b\u0301\u00e1");
        form("e\u0308\u064e\u094d\u0327", "\u00eb\u094d\u064e\u0327");
        form("c\u0301\u0327", "\u00e7\u0301");
        form("c\u0327\u0327", "\u00e7\u0327");
        form("\u00e7\u0301\u094d", "\u00e7\u094d\u0301");
        form("\u00e1\u0300\u0327", "\u00e1\u0327\u0300");
        form("y\u0300\u0301", "y\u0300\u0301");
        form("yb\u0301", "yb\u0301");
        form("a\u094d\u0300\u0301", "\u00e0\u094d\u0301");
        form("A\u0300", "A\u0300");
        form("\u00c0\u0300", "\u00c0\u0300");
        form("\u00ada\u0300.\u00df", "\u00ad\u00e0.\u00df");
    }

    private static void longTexts() {
        form(Due.repeated("\u00e0", 48), Due.repeated("\u00e0", 48));
        form(Due.repeated("a\u0300", 24), Due.repeated("\u00e0", 24));
        form("a" + Due.repeated("\u0301", 24) + Due.repeated("\u0327", 23),
            "\u00e1" + Due.repeated("\u0327", 23) + Due.repeated("\u0301", 23));
    }

    private static void form(String text, String wanted) {
        HostNames names = Due.typed(text);
        Due.due("compose()", names.compose(), wanted.length());
        Due.due("composed", Due.result(names), wanted);
        Due.due("labels() of no process()", names.labels(), 0);
        Due.due("clear() after compose()", names.clear(), text.length());
    }
}
