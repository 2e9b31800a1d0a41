import java.math.BigInteger;
import java.util.ArrayList;
import java.util.List;

/** Long runs of calls against a slow model that follows the document's words one by one. */
public final class ModelTest {
    private static final int RUNS = 3000;
    private static final int CALLS = 60;
    private static final int[] ODDMENTS = {
        45, 45, 45, 46, 46, 48, 57, 97, 99, 101, 121, 122, 110, 120, 115, 33, 127, 0, 65, 90, 192, 215, 222, 223, 224,
        225, 228, 231, 247, 255, 173, 768, 768, 769, 776, 807, 807, 913, 930, 937, 962, 945, 963, 1488, 1514, 1575,
        1576, 1614, 1632, 1641, 1776, 2325, 2381, 2381, 8204, 8204, 8205, 12290, 19968, 40959, 65281, 65313, 65294,
        65374, 128, 256, 1114111, 55295, 57344, 65536};
    private static final String[] PIECES = {
        "xn--", "xn--", "XN--", "xn--tda", "xn--bcher-kva", "-", ".", "a.b", "xn--\u00fc", "\u0628\u064e\u200c\u0628",
        "\u0915\u094d\u200d", "\u05d01", "\u05d0\u0660", "a\u0301\u0327", "\u00df\u00df\u00df\u00df\u00df\u00df",
        "xn--zca", "xn--a-eha06m", "xn--ib9b", "xn--4db", "xn--ngb", "99999", "\u0301\u0308\u0327\u094d"};

    private static long seed = 12345;

    private static int below(int bound) {
        seed = seed * 6364136223846793005L + 1442695040888963407L;
        return (int) ((seed >>> 33) % bound);
    }

    public static void main(String[] args) {
        for (int run = 0; run < RUNS; run++) {
            HostNames names = new HostNames();
            Model model = new Model();
            for (int call = 0; call < CALLS; call++) {
                step(names, model, "run " + run + " call " + call);
            }
        }
        Due.end();
    }

    private static void step(HostNames names, Model model, String where) {
        switch (below(12)) {
            case 0:
                Due.due(where + " clear()", names.clear(), model.clear());
                break;
            case 1:
            case 2:
            case 3:
                typePiece(names, model, where);
                break;
            case 4:
                int code = below(4) == 0 ? below(1200000) - 1000 : ODDMENTS[below(ODDMENTS.length)];
                Due.due(where + " put(" + code + ")", names.put(code), model.put(code));
                break;
            case 5:
                long codes = seed;
                int n = below(12) - 1;
                Due.due(where + " type(" + codes + ", " + n + ")", names.type(codes, n), model.type(codes, n));
                break;
            case 6:
                Due.due(where + " pack()", names.pack(), model.pack());
                break;
            case 7:
                Due.due(where + " unpack()", names.unpack(), model.unpack());
                break;
            case 8:
                Due.due(where + " compose()", names.compose(), model.compose());
                break;
            default:
                int options = below(70) - 2;
                boolean ascii = below(2) == 0;
                String call = where + " process(" + options + ", " + ascii + ")";
                Due.due(call, names.process(options, ascii), model.process(options, ascii));
        }
        compareState(names, model, where);
    }

    private static void typePiece(HostNames names, Model model, String where) {
        List<Integer> piece = new ArrayList<>();
        switch (below(5)) {
            case 0:
                PIECES[below(PIECES.length)].codePoints().forEach(piece::add);
                break;
            case 1:
                for (int i = below(8); i >= 0; i--) {
                    piece.add(ODDMENTS[below(ODDMENTS.length)]);
                }
                break;
            case 2:
                List<Integer> plain = new ArrayList<>();
                for (int i = below(5); i >= 0; i--) {
                    plain.add(ODDMENTS[below(ODDMENTS.length)]);
                }
                "xn--".codePoints().forEach(piece::add);
                piece.addAll(Model.packed(plain));
                break;
            case 3:
                "xn--".codePoints().forEach(piece::add);
                for (int i = below(10); i >= 0; i--) {
                    piece.add((int) "abcdefghijklmnopqrstuvwxyz0123456789-".charAt(below(37)));
                }
                break;
            default:
                int repeated = ODDMENTS[below(ODDMENTS.length)];
                for (int i = below(50); i >= 0; i--) {
                    piece.add(repeated);
                }
        }
        for (int code : piece) {
            Due.due(where + " put(" + code + ")", names.put(code), model.put(code));
        }
    }

    private static void compareState(HostNames names, Model model, String where) {
        Due.due(where + ": length()", names.length(), model.result.size());
        for (int i = -1; i <= model.result.size(); i++) {
            boolean is = i >= 0 && i < model.result.size();
            Due.due(where + ": at(" + i + ")", names.at(i), is ? model.result.get(i) : -1);
        }
        Due.due(where + ": labels()", names.labels(), model.broken.size());
        for (int k = -1; k <= model.broken.size(); k++) {
            boolean is = k >= 0 && k < model.broken.size();
            Due.due(where + ": broken(" + k + ")", names.broken(k), is ? model.broken.get(k) : -1);
        }
    }

    /** The document, word by word, without care for speed. */
    private static final class Model {
        private static final BigInteger GREATEST = BigInteger.valueOf(2147483647);
        private static final List<Integer> TAG = List.of(120, 110, 45, 45);

        private List<Integer> text = new ArrayList<>();
        private List<Integer> result = new ArrayList<>();
        private List<Integer> broken = new ArrayList<>();

        int clear() {
            int size = text.size();
            text = new ArrayList<>();
            return size;
        }

        boolean put(int code) {
            boolean takes = code >= 0 && code <= 1114111 && (code < 55296 || code > 57343) && text.size() < 48;
            if (takes) {
                text.add(code);
            }
            return takes;
        }

        boolean type(long codes, int n) {
            if (n < 1 || n > 8 || text.size() + n > 48) {
                return false;
            }
            List<Integer> bytes = new ArrayList<>();
            long rest = codes;
            for (int i = 0; i < n; i++) {
                bytes.add(0, (int) Long.remainderUnsigned(rest, 256));
                rest = Long.divideUnsigned(rest, 256);
            }
            text.addAll(bytes);
            return true;
        }

        int pack() {
            result = packed(text);
            return result.size();
        }

        boolean unpack() {
            List<Integer> came = unpacked(text);
            if (came != null) {
                result = came;
            }
            return came != null;
        }

        int compose() {
            result = composed(text);
            return result.size();
        }

        // ---- the table

        static String kind(int c) {
            if (c == 223 || c == 962 || c == 8204 || c == 8205) {
                return "odd";
            }
            if (c == 173) {
                return "ignored";
            }
            if (c == 45 || c == 46 || c >= 48 && c <= 57 || c >= 97 && c <= 122 || c >= 224 && c <= 255 && c != 247
                || c == 768 || c == 769 || c == 776 || c == 807 || c >= 945 && c <= 969 || c >= 1488 && c <= 1514
                || c == 1575 || c == 1576 || c == 1614 || c >= 1632 && c <= 1641 || c >= 1776 && c <= 1785
                || c >= 2325 && c <= 2361 || c == 2381 || c >= 19968 && c <= 40959) {
                return "good";
            }
            if (c >= 65 && c <= 90 || c >= 192 && c <= 222 && c != 215 || c >= 913 && c <= 937 && c != 930
                || c == 12290 || c >= 65281 && c <= 65374) {
                return "mapped";
            }
            return c >= 0 && c <= 127 ? "plain" : "forbidden";
        }

        static int order(int c) {
            return c == 768 || c == 769 || c == 776 ? 230 : c == 807 ? 202 : c == 1614 ? 30 : c == 2381 ? 9 : 0;
        }

        static String direction(int c) {
            if (c >= 1488 && c <= 1514) {
                return "R";
            }
            if (c == 1575 || c == 1576) {
                return "AL";
            }
            if (c >= 1632 && c <= 1641) {
                return "AN";
            }
            if (c >= 48 && c <= 57 || c >= 1776 && c <= 1785) {
                return "EN";
            }
            if (c == 45) {
                return "ES";
            }
            if (order(c) > 0) {
                return "NSM";
            }
            if (c == 8204 || c == 8205) {
                return "BN";
            }
            boolean letter = c >= 65 && c <= 90 || c >= 97 && c <= 122;
            return c <= 127 && !letter ? "ON" : "L";
        }

        static int pair(int letter, int mark) {
            String[] rows = {"aeiou", "aeiouy", "aeiouy", "c"};
            int[] marks = {768, 769, 776, 807};
            int[][] ones = {{224, 232, 236, 242, 249}, {225, 233, 237, 243, 250, 253}, {228, 235, 239, 246, 252, 255},
                {231}};
            for (int r = 0; r < rows.length; r++) {
                int at = rows[r].indexOf(letter);
                if (marks[r] == mark && at >= 0) {
                    return ones[r][at];
                }
            }
            return -1;
        }

        // ---- composed form

        static List<Integer> composed(List<Integer> row) {
            List<Integer> form = new ArrayList<>();
            for (int code : row) {
                form.addAll(apart(code));
            }
            boolean exchanged = true;
            while (exchanged) {
                exchanged = false;
                for (int i = 0; i + 1 < form.size(); i++) {
                    int a = order(form.get(i));
                    int b = order(form.get(i + 1));
                    if (a > b && b > 0) {
                        form.add(i, form.remove(i + 1));
                        exchanged = true;
                    }
                }
            }
            int i = 0;
            while (i < form.size()) {
                i = joinAt(form, i) ? i : i + 1;
            }
            return form;
        }

        private static List<Integer> apart(int code) {
            for (int letter = 97; letter <= 122; letter++) {
                for (int mark : new int[] {768, 769, 776, 807}) {
                    if (pair(letter, mark) == code) {
                        return List.of(letter, mark);
                    }
                }
            }
            return List.of(code);
        }

        private static boolean joinAt(List<Integer> form, int i) {
            int mark = form.get(i);
            if (order(mark) == 0) {
                return false;
            }
            int starter = i - 1;
            while (starter >= 0 && order(form.get(starter)) > 0) {
                if (order(form.get(starter)) >= order(mark)) {
                    return false;
                }
                starter--;
            }
            int one = starter < 0 ? -1 : pair(form.get(starter), mark);
            if (one >= 0) {
                form.set(starter, one);
                form.remove(i);
            }
            return one >= 0;
        }

        // ---- packing

        static List<Integer> packed(List<Integer> row) {
            List<Integer> out = new ArrayList<>();
            for (int c : row) {
                if (c < 128) {
                    out.add(c);
                }
            }
            int basic = out.size();
            if (basic > 0) {
                out.add(45);
            }
            long n = 128;
            long bias = 72;
            long delta = 0;
            long h = basic;
            while (h < row.size()) {
                long m = Long.MAX_VALUE;
                for (int c : row) {
                    m = c >= n ? Math.min(m, c) : m;
                }
                delta += (m - n) * (h + 1);
                n = m;
                for (int c : row) {
                    if (c < n) {
                        delta++;
                    }
                    if (c == n) {
                        writeNumber(delta, bias, out);
                        bias = adapted(BigInteger.valueOf(delta), h + 1, h == basic);
                        delta = 0;
                        h++;
                    }
                }
                delta++;
                n++;
            }
            return out;
        }

        private static long threshold(long k, long bias) {
            return k - bias < 1 ? 1 : k - bias > 26 ? 26 : k - bias;
        }

        private static void writeNumber(long number, long bias, List<Integer> out) {
            String digits = "abcdefghijklmnopqrstuvwxyz0123456789";
            long q = number;
            long k = 36;
            while (q >= threshold(k, bias)) {
                long t = threshold(k, bias);
                out.add((int) digits.charAt((int) (t + (q - t) % (36 - t))));
                q = (q - t) / (36 - t);
                k += 36;
            }
            out.add((int) digits.charAt((int) q));
        }

        private static long adapted(BigInteger number, long many, boolean first) {
            BigInteger d = number.divide(BigInteger.valueOf(first ? 700 : 2));
            d = d.add(d.divide(BigInteger.valueOf(many)));
            long k = 0;
            while (d.compareTo(BigInteger.valueOf(455)) > 0) {
                d = d.divide(BigInteger.valueOf(35));
                k += 36;
            }
            return k + 36 * d.longValue() / (d.longValue() + 38);
        }

        /** Null when it fails. */
        static List<Integer> unpacked(List<Integer> row) {
            int hyphen = row.lastIndexOf(45);
            List<Integer> out = new ArrayList<>(row.subList(0, Math.max(0, hyphen)));
            for (int c : out) {
                if (c >= 128) {
                    return null;
                }
            }
            BigInteger i = BigInteger.ZERO;
            BigInteger n = BigInteger.valueOf(128);
            long bias = 72;
            int next = hyphen + 1;
            while (next < row.size()) {
                BigInteger old = i;
                BigInteger weight = BigInteger.ONE;
                for (long k = 36; ; k += 36) {
                    int d = next < row.size() ? digit(row.get(next)) : -1;
                    next++;
                    i = i.add(weight.multiply(BigInteger.valueOf(d)));
                    if (d < 0 || i.compareTo(GREATEST) > 0) {
                        return null;
                    }
                    long t = threshold(k, bias);
                    if (d < t) {
                        break;
                    }
                    weight = weight.multiply(BigInteger.valueOf(36 - t));
                    if (weight.compareTo(GREATEST) > 0) {
                        return null;
                    }
                }
                BigInteger many = BigInteger.valueOf(out.size() + 1);
                bias = adapted(i.subtract(old), out.size() + 1, old.signum() == 0);
                n = n.add(i.divide(many));
                if (n.compareTo(BigInteger.valueOf(1114111)) > 0) {
                    return null;
                }
                i = i.mod(many);
                out.add(i.intValue(), n.intValue());
                i = i.add(BigInteger.ONE);
            }
            return out.size() > 48 ? null : out;
        }

        private static int digit(int c) {
            if (c >= 65 && c <= 90) {
                return c - 65;
            }
            return c > 127 ? -1 : "abcdefghijklmnopqrstuvwxyz0123456789".indexOf(c);
        }

        // ---- processing

        int process(int options, boolean ascii) {
            if (options < 0 || options > 63) {
                return -1;
            }
            boolean[] rule = new boolean[12];
            List<Integer> whole = composed(mapped(options, rule));
            List<List<Integer>> labels = new ArrayList<>();
            labels.add(new ArrayList<>());
            for (int c : whole) {
                if (c == 46) {
                    labels.add(new ArrayList<>());
                } else {
                    labels.get(labels.size() - 1).add(c);
                }
            }
            List<Boolean> tagged = new ArrayList<>();
            broken = new ArrayList<>();
            for (int k = 0; k < labels.size(); k++) {
                boolean isTagged = begins(labels.get(k));
                List<Integer> came = isTagged ? unpacked(labels.get(k).subList(4, labels.get(k).size())) : null;
                boolean fails = isTagged && (came == null || came.stream().allMatch(c -> c < 128));
                if (isTagged && !fails) {
                    labels.set(k, came);
                }
                tagged.add(isTagged);
                broken.add(fails ? 2 : 0);
            }
            boolean directed = (options & 16) != 0 && labels.stream().anyMatch(label -> label.stream()
                .anyMatch(c -> List.of("R", "AL", "AN").contains(direction(c))));
            for (int k = 0; k < labels.size(); k++) {
                if (broken.get(k) == 0 && !labels.get(k).isEmpty()) {
                    broken.set(k, brokenBy(labels.get(k), options, tagged.get(k), directed));
                }
            }
            writeResult(labels, ascii, options, rule);
            int sum = 0;
            for (int k = 1; k <= 11; k++) {
                int bit = 1 << (k - 1);
                boolean byLabel = broken.stream().anyMatch(b -> (b & bit) != 0);
                sum += rule[k] || byLabel ? bit : 0;
            }
            return sum;
        }

        private List<Integer> mapped(int options, boolean[] rule) {
            List<Integer> out = new ArrayList<>();
            for (int c : text) {
                switch (kind(c)) {
                    case "ignored":
                        break;
                    case "odd":
                        if ((options & 2) == 0) {
                            out.add(c);
                        } else if (c == 223) {
                            out.addAll(List.of(115, 115));
                        } else if (c == 962) {
                            out.add(963);
                        }
                        break;
                    case "mapped":
                        int to = c == 12290 ? 46 : c >= 65281 ? c - 65248 : c + 32;
                        to = to >= 65 && to <= 90 ? to + 32 : to;
                        rule[1] |= kind(to).equals("plain") && (options & 1) != 0;
                        out.add(to);
                        break;
                    default:
                        rule[1] |= kind(c).equals("forbidden") || kind(c).equals("plain") && (options & 1) != 0;
                        out.add(c);
                }
            }
            return out;
        }

        private static boolean begins(List<Integer> label) {
            return label.size() >= 4 && label.subList(0, 4).equals(TAG);
        }

        private static int brokenBy(List<Integer> label, int options, boolean tagged, boolean directed) {
            int size = label.size();
            int sum = 0;
            sum += composed(label).equals(label) ? 0 : 4;
            boolean hyphens = (options & 4) != 0;
            sum += hyphens && size >= 4 && label.get(2) == 45 && label.get(3) == 45 ? 8 : 0;
            sum += hyphens && (label.get(0) == 45 || label.get(size - 1) == 45) ? 16 : 0;
            sum += begins(label) ? 32 : 0;
            sum += order(label.get(0)) > 0 ? 64 : 0;
            boolean old = (options & 2) != 0 && !tagged;
            boolean strict = (options & 1) != 0;
            sum += label.stream().anyMatch(c -> !(kind(c).equals("good") || kind(c).equals("plain") && !strict
                || kind(c).equals("odd") && !old)) ? 128 : 0;
            sum += (options & 8) != 0 && breaksJoining(label) ? 256 : 0;
            sum += directed && breaksDirection(label) ? 512 : 0;
            return sum;
        }

        private static boolean breaksJoining(List<Integer> label) {
            for (int i = 0; i < label.size(); i++) {
                int c = label.get(i);
                boolean behindNine = i > 0 && order(label.get(i - 1)) == 9;
                if ((c == 8204 || c == 8205) && !behindNine) {
                    String left = joins(label.subList(0, i));
                    String right = joins(label.subList(i + 1, label.size()));
                    boolean between = left.matches(".*Bt*") && right.matches("t*[BR].*");
                    if (c == 8205 || !between) {
                        return true;
                    }
                }
            }
            return false;
        }

        private static String joins(List<Integer> codes) {
            StringBuilder out = new StringBuilder();
            for (int c : codes) {
                out.append(c == 1575 ? 'R' : c == 1576 ? 'B' : c == 1614 || c == 2381 ? 't' : 'n');
            }
            return out.toString();
        }

        private static boolean breaksDirection(List<Integer> label) {
            StringBuilder row = new StringBuilder();
            for (int c : label) {
                row.append(direction(c)).append(' ');
            }
            String all = row.toString();
            boolean leftFits = all.matches("L ((L|EN|ES|ON|BN|NSM) )*")
                && all.matches("(.* )?(L|EN) (NSM )*");
            boolean rightFits = all.matches("(R|AL) ((R|AL|AN|EN|ES|ON|BN|NSM) )*")
                && all.matches("(.* )?(R|AL|EN|AN) (NSM )*") && !(all.contains("EN ") && all.contains("AN "));
            return !leftFits && !rightFits;
        }

        private void writeResult(List<List<Integer>> labels, boolean ascii, int options, boolean[] rule) {
            boolean measured = ascii && (options & 32) != 0;
            result = new ArrayList<>();
            int whole = -1;
            for (int k = 0; k < labels.size(); k++) {
                List<Integer> label = labels.get(k);
                if (ascii && label.stream().anyMatch(c -> c > 127)) {
                    label = new ArrayList<>(TAG);
                    label.addAll(packed(labels.get(k)));
                }
                if (k > 0) {
                    result.add(46);
                }
                result.addAll(label);
                boolean last = k == labels.size() - 1;
                whole += last && label.isEmpty() ? 0 : label.size() + 1;
                boolean wrong = label.size() > 20 || label.isEmpty() && !(last && k > 0);
                broken.set(k, broken.get(k) + (measured && wrong ? 1024 : 0));
            }
            rule[11] |= measured && (whole <= 0 || whole > 60);
        }
    }
}
