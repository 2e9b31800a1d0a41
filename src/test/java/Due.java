/** What the tests share: comparing, telling what is wrong, typing texts and reading results. */
final class Due {
    private static int looked = 0;
    private static int wrong = 0;

    private Due() {
    }

    static void due(String what, long got, long want) {
        looked++;
        if (got != want) {
            wrong++;
            System.out.println(what + " answered " + got + ", due is " + want);
        }
    }

    static void due(String what, boolean got, boolean want) {
        due(what, got ? 1L : 0L, want ? 1L : 0L);
    }

    static void due(String what, String got, String want) {
        looked++;
        if (!got.equals(want)) {
            wrong++;
            System.out.println(what + " gave " + shown(got) + ", due is " + shown(want));
        }
    }

    static HostNames typed(String text) {
        HostNames names = new HostNames();
        retype(names, text);
        return names;
    }

    static void retype(HostNames names, String text) {
        names.clear();
        int[] codes = text.codePoints().toArray();
        for (int code : codes) {
            if (!names.put(code)) {
                throw new IllegalStateException("the test's text can't be typed: " + shown(text));
            }
        }
    }

    static String result(HostNames names) {
        StringBuilder codes = new StringBuilder();
        for (int i = 0; i < names.length(); i++) {
            codes.appendCodePoint(names.at(i));
        }
        return codes.toString();
    }

    static String repeated(String text, int times) {
        return text.repeat(times);
    }

    static void end() {
        System.out.println(wrong == 0 ? looked + " answers are as due" : wrong + " answers are not as due");
        if (wrong != 0) {
            System.exit(1);
        }
        if (looked == 0) {
            System.out.println("nothing was looked at");
            System.exit(1);
        }
    }

    private static String shown(String text) {
        StringBuilder shown = new StringBuilder("\"");
        text.codePoints().forEach(code -> {
            if (code > 32 && code < 127) {
                shown.append((char) code);
            } else {
                shown.append('<').append(code).append('>');
            }
        });
        return shown.append('"').toString();
    }
}
