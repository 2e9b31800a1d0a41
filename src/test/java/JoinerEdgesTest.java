/** Rule 9 and the table of joining: each sentence that names an edge, by itself. */
public final class JoinerEdgesTest extends Due {
    private static final int RIGHT = 1575;
    private static final int BOTH = 1576;
    private static final int THROUGH = 1614;
    private static final int NINE = 2381;

    public static void main(String[] args) {
        onlyWithTheOption();
        behindACodeOfOrder9();
        betweenCodesThatJoin();
        passingOverCodesThatJoinThrough();
        theOtherJoiner();
        everyJoinerIsLookedAt();
        withinTheLabel();
        joiningOfEveryCode();
        end();
    }

    /** The label comes out of unpacking, so it is neither mapped nor sorted. */
    private static void holdsFor(int... label) {
        toldOfRule(9, TAG + packed(codes(label)), JOINERS, false);
    }

    private static void isBrokenBy(int... label) {
        toldOfRule(9, TAG + packed(codes(label)), JOINERS, true);
    }

    private static void onlyWithTheOption() {
        sentence("To process: 9 (JOINERS on)");
        for (int joiner : new int[] {8204, 8205}) {
            toldOfRule(9, codes(joiner), JOINERS, true);
            toldOfRule(9, codes(joiner), ALL - OLD, true);
            toldOfRule(9, codes(joiner), ALL - JOINERS, false);
            toldOfRule(9, codes(joiner), 0, false);
            toldOfRule(9, codes(joiner), ALL, false);
            toldOfRule(9, TAG + packed(codes(joiner)), ALL, true);
            toldOfRule(9, TAG + packed(codes(joiner)), ALL - JOINERS, false);
        }
        toldOfRule(9, "", JOINERS, false);
        toldOfRule(9, "a", JOINERS, false);
    }

    private static void behindACodeOfOrder9() {
        sentence("To process: 9: a code 8204 is neither right behind a code of order 9");
        holdsFor(NINE, 8204);
        holdsFor(97, NINE, 8204);
        holdsFor(NINE, 8204, 97);
        isBrokenBy(8204);
        isBrokenBy(8204, NINE);
        isBrokenBy(NINE, 97, 8204);
        isBrokenBy(NINE, 8204, 8204);
        isBrokenBy(NINE, THROUGH, 8204);
        holdsFor(THROUGH, NINE, 8204);
        isBrokenBy(769, 8204);
        isBrokenBy(807, 8204);
        isBrokenBy(97, 8204, 97);
        // Composing what is typed puts the code of order 9 first.
        toldOfRule(9, codes(97, THROUGH, NINE, 8204), JOINERS, true);
        toldOfRule(9, codes(97, NINE, 8204), JOINERS, false);
    }

    private static void betweenCodesThatJoin() {
        sentence("To process: 9: .. between one that joins both (on its left) and one that joins right or both");
        holdsFor(BOTH, 8204, BOTH);
        holdsFor(BOTH, 8204, RIGHT);
        isBrokenBy(RIGHT, 8204, BOTH);
        isBrokenBy(RIGHT, 8204, RIGHT);
        isBrokenBy(BOTH, 8204);
        isBrokenBy(8204, BOTH);
        isBrokenBy(BOTH, 8204, 97);
        isBrokenBy(97, 8204, BOTH);
        isBrokenBy(BOTH, 97, 8204, BOTH);
        isBrokenBy(BOTH, 8204, 97, BOTH);
        isBrokenBy(BOTH, 8204, 8204, BOTH);
        isBrokenBy(BOTH, 8205, 8204, BOTH);
    }

    private static void passingOverCodesThatJoinThrough() {
        sentence("To process: 9: .. passing over codes that join through");
        holdsFor(BOTH, THROUGH, 8204, RIGHT);
        holdsFor(BOTH, 8204, THROUGH, RIGHT);
        holdsFor(BOTH, 8204, NINE, BOTH);
        holdsFor(BOTH, NINE, THROUGH, 8204, BOTH);
        holdsFor(BOTH, THROUGH, NINE, THROUGH, 8204, THROUGH, NINE, THROUGH, BOTH);
        isBrokenBy(BOTH, THROUGH, 8204, THROUGH);
        isBrokenBy(THROUGH, 8204, THROUGH, BOTH);
        isBrokenBy(THROUGH, 8204, THROUGH);
        isBrokenBy(97, THROUGH, 8204, BOTH);
        isBrokenBy(BOTH, 8204, THROUGH, 97);
        isBrokenBy(RIGHT, THROUGH, 8204, THROUGH, BOTH);
        isBrokenBy(BOTH, 768, 8204, BOTH);
        isBrokenBy(BOTH, 8204, 807, BOTH);
        String through = repeated(codes(THROUGH), 22);
        toldOfRule(9, codes(BOTH) + through + codes(8204) + through + codes(RIGHT), JOINERS, false);
        toldOfRule(9, codes(BOTH) + through + codes(8204) + through, JOINERS, true);
        toldOfRule(9, through + codes(8204) + through + codes(RIGHT), JOINERS, true);
    }

    private static void theOtherJoiner() {
        sentence("To process: 9: or a code 8205 is not right behind a code of order 9");
        holdsFor(NINE, 8205);
        holdsFor(97, NINE, 8205, 97);
        isBrokenBy(8205);
        isBrokenBy(8205, NINE);
        isBrokenBy(NINE, 97, 8205);
        isBrokenBy(NINE, 8205, 8205);
        isBrokenBy(NINE, THROUGH, 8205);
        isBrokenBy(THROUGH, 8205);
        isBrokenBy(768, 8205);
        isBrokenBy(BOTH, 8205, BOTH);
        isBrokenBy(BOTH, 8205, RIGHT);
    }

    private static void everyJoinerIsLookedAt() {
        sentence("To process: 9: a code 8204 .. or a code 8205 (any of them)");
        holdsFor(NINE, 8204, NINE, 8205, BOTH, 8204, BOTH, 8204, RIGHT);
        isBrokenBy(8204, NINE, 8204);
        isBrokenBy(NINE, 8204, 97, 8204);
        isBrokenBy(8205, NINE, 8205);
        isBrokenBy(NINE, 8205, 97, 8205);
        isBrokenBy(NINE, 8204, 8205);
        isBrokenBy(NINE, 8205, 8204);
        isBrokenBy(BOTH, 8204, RIGHT, 8204, BOTH);
    }

    private static void withinTheLabel() {
        sentence("To process: The other rules, each for a label");
        told(codes(98, NINE, 46, 8204), JOINERS, false, codes(98, NINE, 46, 8204), rules(9), 0, rules(9));
        told(codes(98, NINE, 46, 8205), JOINERS, false, codes(98, NINE, 46, 8205), rules(9), 0, rules(9));
        told(codes(BOTH, 8204, 46, BOTH), JOINERS, false, codes(BOTH, 8204, 46, BOTH), rules(9), rules(9), 0);
        told(codes(BOTH, 46, 8204, BOTH), JOINERS, false, codes(BOTH, 46, 8204, BOTH), rules(9), 0, rules(9));
        String both = codes(BOTH, 8204, BOTH, 46, 8205);
        told(both, JOINERS, false, both, rules(9), 0, rules(9));
    }

    private static void joiningOfEveryCode() {
        sentence("Codes: JOINING: 1575 right; 1576 both; 1614 and 2381 through; all others none");
        for (int code : tableCodes()) {
            boolean isMapped = code >= 65 && code <= 90 || code == 46 || code >= 55296 && code <= 57343;
            if (!isMapped && code != 8204 && code != 8205) {
                boolean isThrough = code == THROUGH || code == NINE;
                joins(code == RIGHT || code == BOTH, BOTH, 8204, code);
                joins(code == BOTH || code == NINE, code, 8204, BOTH);
                joins(code == BOTH || isThrough, BOTH, code, 8204, BOTH);
                joins(code == RIGHT || code == BOTH || isThrough, BOTH, 8204, code, BOTH);
                joins(code == NINE, code, 8205);
            }
        }
    }

    private static void joins(boolean isRight, int... label) {
        toldOfRule(9, TAG + packed(codes(label)), JOINERS, !isRight);
    }
}
