/** Rule 10, the rules of direction and the table of directions: each sentence that names an edge, by itself. */
public final class DirectionEdgesTest extends Due {
    private static final int R = 1488;
    private static final int AL = 1576;
    private static final int AN = 1632;
    private static final int EN = 49;
    private static final int ES = 45;
    private static final int NSM = 769;
    private static final int BN = 8204;
    private static final int ON = 33;
    private static final int L = 98;
    private static final int[] ALL_KINDS = {R, AL, AN, EN, ES, NSM, BN, ON, L};

    public static void main(String[] args) {
        onlyWithTheOption();
        onlyWhenSomeLabelIsRightToLeft();
        asTheLabelsAreNow();
        theFirstCode();
        behindRightToLeft();
        theEndOfRightToLeft();
        notBothKindsOfNumbers();
        behindLeftToRight();
        theEndOfLeftToRight();
        directionOfEveryCode();
        end();
    }

    private static void holdsFor(int... label) {
        looksAt(false, label);
    }

    private static void isBrokenBy(int... label) {
        looksAt(true, label);
    }

    /** Another label has a code of R, so the rules of direction are in force. */
    private static void looksAt(boolean isBroken, int... label) {
        String row = codes(label);
        boolean isPacked = row.codePoints().anyMatch(code -> code > 127);
        HostNames names = typed(codes(R, 46) + (isPacked ? TAG + packed(row) : row));
        int wanted = isBroken ? rules(10) : 0;
        due("rule 10 in " + shown(row), names.process(BIDI, false) & rules(10), wanted);
        due("rule 10 of the label " + shown(row), names.broken(1) & rules(10), wanted);
        due("rule 10 of the other label", names.broken(0), 0);
    }

    private static boolean isOneOf(int code, int... codes) {
        boolean found = false;
        for (int other : codes) {
            found |= other == code;
        }
        return found;
    }

    private static void onlyWithTheOption() {
        sentence("To process: 10 (BIDI on");
        toldOfRule(10, codes(R, L), BIDI, true);
        toldOfRule(10, codes(R, L), ALL, true);
        toldOfRule(10, codes(R, L), ALL - BIDI, false);
        toldOfRule(10, codes(R, L), 0, false);
    }

    private static void onlyWhenSomeLabelIsRightToLeft() {
        sentence("To process: 10: .. and some label .. has a code of R, AL or AN)");
        told("1.-.b-.!", BIDI, false, "1.-.b-.!", 0, 0, 0, 0, 0);
        told("1." + codes(1776, 8204), BIDI, false, "1." + codes(1776, 8204), 0, 0, 0);
        told("1." + codes(98, 769), BIDI, false, "1." + codes(98, 769), 0, 0, 0);
        for (int code : new int[] {1488, 1501, 1514, 1575, 1576, 1632, 1637, 1641}) {
            boolean isNumber = code >= 1632;
            int own = isNumber ? rules(10) : 0;
            told("1." + codes(code), BIDI, false, "1." + codes(code), rules(10), rules(10), own);
            told(codes(code) + ".1", BIDI, false, codes(code) + ".1", rules(10), own, rules(10));
            toldOfRule(10, codes(code), BIDI, isNumber);
            // The last code of the last label counts too.
            String ending = "1.b.b" + codes(code);
            told(ending, BIDI, false, ending, rules(10), rules(10), 0, rules(10));
        }
        for (int code : new int[] {1487, 1515, 1574, 1577, 1631, 1642, 1775, 1776, 1785, 1786}) {
            toldOfRule(10, "1" + codes(code), BIDI, false);
        }
    }

    private static void asTheLabelsAreNow() {
        sentence("To process: 10: .. and some label, as they are now");
        String tagged = TAG + packed(codes(R));
        told("1." + tagged, BIDI, false, "1." + codes(R), rules(10), rules(10), 0);
        told(tagged + ".1", BIDI, false, codes(R) + ".1", rules(10), 0, rules(10));
        told("1." + tagged, BIDI, true, "1." + tagged, rules(10), rules(10), 0);
        told("1." + TAG + "tda", BIDI, false, "1." + codes(252), 0, 0, 0);
        told("1." + TAG + codes(R), BIDI, false, "1." + TAG + codes(R), rules(2, 10), rules(10), rules(2));
    }

    private static void theFirstCode() {
        sentence("Rules of direction: The label's first code is of L, R or AL");
        for (int kind : ALL_KINDS) {
            boolean isRight = isOneOf(kind, L, R, AL);
            looksAt(!isRight, kind);
            looksAt(!isRight, kind, kind);
            if (!isRight) {
                isBrokenBy(kind, L);
                isBrokenBy(kind, R);
            }
        }
        isBrokenBy(NSM, NSM, L);
    }

    private static void behindRightToLeft() {
        sentence("Rules of direction: If it is R or AL: only R, AL, AN, EN, ES, ON, BN, NSM");
        for (int first : new int[] {R, AL}) {
            for (int kind : ALL_KINDS) {
                looksAt(kind == L, first, kind, R);
                looksAt(kind == L, first, kind, kind, AL);
                looksAt(kind == L, first, R, AL, kind, NSM, R);
            }
            isBrokenBy(first, L);
            isBrokenBy(first, L, first);
        }
    }

    private static void theEndOfRightToLeft() {
        sentence("Rules of direction: the last one, NSM at the end passed over, is R, AL, EN or AN");
        for (int first : new int[] {R, AL}) {
            holdsFor(first);
            holdsFor(first, NSM);
            holdsFor(first, NSM, 807, 2381, 1614);
            for (int kind : new int[] {R, AL, EN, AN, 1776, 1785}) {
                holdsFor(first, kind);
                holdsFor(first, kind, NSM);
                holdsFor(first, ES, kind, NSM, NSM);
            }
            for (int kind : new int[] {ES, BN, ON}) {
                isBrokenBy(first, kind);
                isBrokenBy(first, kind, NSM);
                isBrokenBy(first, R, kind, NSM, NSM);
                holdsFor(first, kind, R);
            }
        }
    }

    private static void notBothKindsOfNumbers() {
        sentence("Rules of direction: not both EN and AN");
        for (int first : new int[] {R, AL}) {
            for (int en : new int[] {48, 57, 1776, 1785}) {
                for (int an : new int[] {1632, 1641}) {
                    isBrokenBy(first, en, an);
                    isBrokenBy(first, an, en);
                    isBrokenBy(first, en, R, an, R);
                    holdsFor(first, en, en);
                    holdsFor(first, an, an);
                }
            }
            holdsFor(first, 48, 1776);
        }
        // In different labels they may stand.
        String apart = codes(R, EN, 46, R, AN);
        told(apart, BIDI, false, apart, 0, 0, 0);
    }

    private static void behindLeftToRight() {
        sentence("Rules of direction: If it is L: only L, EN, ES, ON, BN, NSM");
        for (int kind : ALL_KINDS) {
            boolean isWrong = isOneOf(kind, R, AL, AN);
            looksAt(isWrong, L, kind, L);
            looksAt(isWrong, L, L, kind, kind, L);
            looksAt(isWrong, L, EN, kind, NSM, EN);
        }
    }

    private static void theEndOfLeftToRight() {
        sentence("Rules of direction: the last one, NSM at the end passed over, is L or EN");
        holdsFor(L);
        holdsFor(L, NSM);
        holdsFor(L, NSM, 807, 2381, 1614);
        for (int kind : ALL_KINDS) {
            if (kind != NSM) {
                boolean isWrong = !isOneOf(kind, L, EN);
                looksAt(isWrong, L, kind);
                looksAt(isWrong, L, kind, NSM);
                looksAt(isWrong, L, EN, kind, NSM, NSM);
            }
        }
        holdsFor(L, 1776);
        holdsFor(L, 1785, NSM);
    }

    private static void directionOfEveryCode() {
        sentence("Codes: DIRECTIONS: R: .. AL: .. AN: .. EN: .. ES: .. NSM: the marks. BN: .. ON: .. L: all others");
        for (int code : tableCodes()) {
            // A capital, a dot or a half can't stand in a label, or can't be typed.
            boolean cannotStand = code >= 65 && code <= 90 || code == 46 || code >= 55296 && code <= 57343;
            if (!cannotStand) {
                int kind = kindOf(code);
                looksAt(!isOneOf(kind, L, R, AL), code);
                looksAt(!isOneOf(kind, L, EN, NSM), L, code);
                looksAt(!isOneOf(kind, R, AL, EN, AN, NSM), R, code);
                looksAt(kind == L, R, code, R);
                looksAt(isOneOf(kind, R, AL, AN), L, code, L);
                looksAt(isOneOf(kind, L, AN), R, EN, code, R);
                looksAt(isOneOf(kind, L, EN), R, AN, code, R);
                looksAt(!isOneOf(kind, R, AL, EN, AN), R, ES, code);
            }
        }
    }

    /** A code of the same direction, as the document's table tells it. */
    private static int kindOf(int code) {
        if (code >= 1488 && code <= 1514) {
            return R;
        }
        if (code == 1575 || code == 1576) {
            return AL;
        }
        if (code >= 1632 && code <= 1641) {
            return AN;
        }
        if (code >= 48 && code <= 57 || code >= 1776 && code <= 1785) {
            return EN;
        }
        if (isOneOf(code, 768, 769, 776, 807, 1614, 2381)) {
            return NSM;
        }
        if (code == 45) {
            return ES;
        }
        if (code == 8204 || code == 8205) {
            return BN;
        }
        return code > 127 || code >= 97 && code <= 122 ? L : ON;
    }
}
