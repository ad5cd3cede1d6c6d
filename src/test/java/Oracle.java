import java.math.BigInteger;
import java.util.ArrayList;
import java.util.Comparator;
import java.util.HashMap;
import java.util.List;
import java.util.Map;
import java.util.TreeSet;
import java.util.regex.Matcher;
import java.util.regex.Pattern;

/**
 * The document once more, in the slowest and plainest way: figures as texts, every pair tried, nothing kept between
 * calls. It shares no code with the class, so that a slip in one shows against the other.
 */
final class Oracle {
    static final int NONE = -1, UNKNOWN = -2, OUTSIDE = -3, NOT = -4, FULL = -5;
    private static final int LIFT = 50000000;

    private static final class Entry {
        int side, sum, account, hand, page;
    }

    private static final class Slip {
        int kind, place, should;
        long change, weight;

        boolean isAtPage() {
            return kind == 6;
        }
    }

    private static final class Fault extends Exception {
        private static final long serialVersionUID = 1;
        final int place;

        Fault(int place) {
            this.place = place;
        }
    }

    private final StringBuilder text = new StringBuilder();
    private final List<Entry> entries = new ArrayList<>();
    private final Integer[] dues = new Integer[6];
    private final int[][] odds = new int[4][5];
    private final int[][] reads = new int[10][10];
    private final List<Integer> lines = new ArrayList<>();
    private int missed = 1, carry = 1, second = 1;

    Oracle() {
        for (int[] row : odds) {
            java.util.Arrays.fill(row, 1);
        }
    }

    // ---- the book

    int write(long bytes, int n) {
        if (n < 1 || n > 8) {
            return OUTSIDE;
        }
        if (text.length() + n > 200) {
            return FULL;
        }
        for (int i = 0; i < n; i++) {
            text.append((char) (bytes >>> 8 * i & 0xff));
        }
        return text.length();
    }

    int erase() {
        int had = text.length();
        text.setLength(0);
        return had;
    }

    int fault() {
        try {
            parse();
            return NONE;
        } catch (Fault fault) {
            return fault.place;
        }
    }

    int book() {
        List<List<String>> parsed;
        try {
            parsed = parse();
        } catch (Fault fault) {
            return NOT;
        }
        for (List<String> line : parsed) {
            perform(line);
        }
        text.setLength(0);
        return parsed.size();
    }

    // Each line as the document writes it: a word stands for itself, a letter for a number.
    private static final String[] FORMS = {"left N A H P", "right N A H P", "hand H K W", "read X Y W", "missed W",
        "carry W", "second W", "page P left D", "page P right D", "page P free"};

    private List<List<String>> parse() throws Fault {
        List<String> tokens = new ArrayList<>();
        List<Integer> places = new ArrayList<>();
        Matcher matcher = Pattern.compile("[a-z]+|[0-9]+|[^ ]", Pattern.DOTALL).matcher(text);
        while (matcher.find()) {
            tokens.add(matcher.group());
            places.add(matcher.start());
        }
        places.add(text.length());
        List<List<String>> parsed = new ArrayList<>();
        int at = 0;
        while (true) {
            List<String> line = new ArrayList<>();
            while (true) {
                List<String> forms = formsWith(line);
                if (forms.isEmpty()) {
                    throw new Fault(places.get(at - 1));
                }
                if (forms.size() == 1 && forms.get(0).split(" ").length == line.size()) {
                    break;
                }
                if (at == tokens.size()) {
                    throw new Fault(places.get(at));
                }
                line.add(tokens.get(at++));
            }
            parsed.add(line);
            if (at == tokens.size()) {
                return parsed;
            }
            if (!tokens.get(at).equals(";") || parsed.size() == 10) {
                throw new Fault(places.get(at));
            }
            at++;
        }
    }

    private static List<String> formsWith(List<String> line) {
        List<String> forms = new ArrayList<>();
        for (String form : FORMS) {
            String[] parts = form.split(" ");
            boolean fits = line.size() <= parts.length;
            for (int i = 0; fits && i < line.size(); i++) {
                fits = fits(parts[i], line.get(i), line);
            }
            if (fits) {
                forms.add(form);
            }
        }
        return forms;
    }

    private static boolean fits(String part, String token, List<String> line) {
        if (part.length() > 1) {
            return part.equals(token);
        }
        if (!token.matches("[0-9]{1,6}")) {
            return false;
        }
        int number = Integer.parseInt(token);
        switch (part) {
            case "N": return number >= 1;
            case "A": return number <= 7;
            case "H": return number <= 3;
            case "P": return number <= 5;
            case "K": return number <= 4;
            case "X": return number <= 9;
            case "Y": return number <= 9 && number != Integer.parseInt(line.get(1));
            case "W": return number <= 99;
            default: return true;
        }
    }

    private void perform(List<String> line) {
        int[] n = new int[5];
        for (int i = 1; i < line.size(); i++) {
            n[i] = line.get(i).matches("[0-9]+") ? Integer.parseInt(line.get(i)) : 0;
        }
        switch (line.get(0)) {
            case "left":
            case "right":
                if (entries.size() < 30) {
                    Entry entry = new Entry();
                    entry.side = line.get(0).equals("left") ? 0 : 1;
                    entry.sum = n[1];
                    entry.account = n[2];
                    entry.hand = n[3];
                    entry.page = n[4];
                    entries.add(entry);
                }
                break;
            case "hand": odds[n[1]][n[2]] = n[3]; break;
            case "read": reads[n[1]][n[2]] = n[3]; break;
            case "missed": missed = n[1]; break;
            case "carry": carry = n[1]; break;
            case "second": second = n[1]; break;
            default:
                String word = line.get(2);
                dues[n[1]] = word.equals("free") ? null : word.equals("left") ? Integer.valueOf(n[3]) : Integer.valueOf(-n[3]);
                break;
        }
    }

    private boolean has(int entry) {
        return 0 <= entry && entry < entries.size();
    }

    int entry(int entry, int what) {
        if (!has(entry)) {
            return UNKNOWN;
        }
        Entry e = entries.get(entry);
        switch (what) {
            case 0: return e.side;
            case 1: return e.sum;
            case 2: return e.account;
            case 3: return e.hand;
            case 4: return e.page;
            default: return OUTSIDE;
        }
    }

    private int outOf(Integer page) {
        int left = 0, right = 0;
        for (Entry e : entries) {
            if (page == null || e.page == page) {
                if (e.side == 0) {
                    left += e.sum;
                } else {
                    right += e.sum;
                }
            }
        }
        return left - right;
    }

    int out(int page) {
        if (page < -1 || page > 5) {
            return UNKNOWN;
        }
        return LIFT + (page == -1 ? outOf(null) : outOf(page));
    }

    int off(int page) {
        if (page < 0 || page > 5) {
            return UNKNOWN;
        }
        return dues[page] == null ? NONE : LIFT + outOf(page) - dues[page];
    }

    int odds(int hand, int kind) {
        return hand < 0 || hand > 3 || kind < 0 || kind > 4 ? UNKNOWN : odds[hand][kind];
    }

    int learn(int hand, int kind) {
        if (odds(hand, kind) == UNKNOWN) {
            return UNKNOWN;
        }
        if (odds[hand][kind] < 99) {
            odds[hand][kind]++;
        }
        return odds[hand][kind];
    }

    int mend(int entry, int side, int sum) {
        if (!has(entry)) {
            return UNKNOWN;
        }
        if (side < 0 || side > 1 || sum < 1 || sum > 999999) {
            return OUTSIDE;
        }
        entries.get(entry).side = side;
        entries.get(entry).sum = sum;
        return LIFT + outOf(null);
    }

    int strike(int entry) {
        if (!has(entry)) {
            return UNKNOWN;
        }
        entries.remove(entry);
        return entries.size();
    }

    // ---- slips

    int signs() {
        int out = outOf(null);
        if (out == 0) {
            return NOT;
        }
        int much = Math.abs(out);
        int greater = out > 0 ? 0 : 1;
        boolean[] bits = new boolean[5];
        bits[0] = much % 9 == 0;
        bits[3] = String.valueOf(much).matches("10{1,5}");
        for (Entry e : entries) {
            if (e.side == greater) {
                bits[1] |= 2 * e.sum == much;
                bits[2] |= e.sum == much;
            }
            bits[4] |= 9 * e.sum == much || e.sum % 10 == 0 && e.sum / 10 * 9 == much;
        }
        int signs = 0;
        for (int i = 0; i < 5; i++) {
            signs += bits[i] ? 1 << i : 0;
        }
        return signs;
    }

    private static TreeSet<Integer> turns(int sum) {
        TreeSet<Integer> found = new TreeSet<>();
        char[] figures = String.valueOf(sum).toCharArray();
        for (int i = 0; i + 1 < figures.length; i++) {
            char[] other = figures.clone();
            other[i] = figures[i + 1];
            other[i + 1] = figures[i];
            if (other[0] != '0' && figures[i] != figures[i + 1]) {
                found.add(Integer.parseInt(new String(other)));
            }
        }
        return found;
    }

    /** What a sum should be if one figure is another: what should stand, and the two figures X, Y as tens and ones. */
    private static Map<Integer, Integer> figures(int sum) {
        Map<Integer, Integer> found = new HashMap<>();
        char[] figures = String.valueOf(sum).toCharArray();
        for (int i = 0; i < figures.length; i++) {
            for (char x = '0'; x <= '9'; x++) {
                char[] other = figures.clone();
                other[i] = x;
                if (x != figures[i] && other[0] != '0') {
                    found.put(Integer.parseInt(new String(other)), (x - '0') * 10 + figures[i] - '0');
                }
            }
        }
        return found;
    }

    private static TreeSet<Integer> noughts(int sum) {
        TreeSet<Integer> found = new TreeSet<>();
        String figures = String.valueOf(sum);
        if (figures.endsWith("0")) {
            found.add(Integer.parseInt(figures.substring(0, figures.length() - 1)));
        }
        if (figures.length() < 6) {
            found.add(Integer.parseInt(figures + "0"));
        }
        return found;
    }

    private boolean isTwice(int entry) {
        for (int ahead = 0; ahead < entry; ahead++) {
            Entry a = entries.get(ahead), b = entries.get(entry);
            if (a.side == b.side && a.sum == b.sum && a.account == b.account) {
                return true;
            }
        }
        return false;
    }

    private static void add(List<Slip> slips, int kind, int place, int should, long change, long weight) {
        Slip slip = new Slip();
        slip.kind = kind;
        slip.place = place;
        slip.should = should;
        slip.change = change;
        slip.weight = weight;
        if (weight > 0) {
            slips.add(slip);
        }
    }

    private List<Slip> slips() {
        List<Slip> slips = new ArrayList<>();
        for (int i = 0; i < entries.size(); i++) {
            Entry e = entries.get(i);
            int sign = e.side == 0 ? 1 : -1;
            for (int should : turns(e.sum)) {
                add(slips, 0, i, should, sign * (should - e.sum), odds[e.hand][0]);
            }
            for (Map.Entry<Integer, Integer> f : figures(e.sum).entrySet()) {
                int read = reads[f.getValue() / 10][f.getValue() % 10];
                add(slips, 1, i, f.getKey(), sign * (f.getKey() - e.sum), (long) odds[e.hand][1] * read);
            }
            for (int should : noughts(e.sum)) {
                add(slips, 2, i, should, sign * (should - e.sum), odds[e.hand][2]);
            }
            add(slips, 3, i, e.sum, sign * -2 * e.sum, odds[e.hand][3]);
            if (isTwice(i)) {
                add(slips, 4, i, 0, sign * -e.sum, odds[e.hand][4]);
            }
        }
        int out = outOf(null);
        if (out != 0 && Math.abs(out) <= 999999) {
            add(slips, 5, out > 0 ? 1 : 0, Math.abs(out), -out, missed);
        }
        for (int page = 0; page < 6; page++) {
            boolean used = false;
            for (Entry e : entries) {
                used |= e.page == page;
            }
            for (int k = 1, ten = 10; used && k <= 5; k++, ten *= 10) {
                add(slips, 6, page, k, ten, carry);
                add(slips, 6, page, k, -ten, carry);
            }
        }
        slips.sort(Comparator.<Slip>comparingInt(s -> s.kind).thenComparingInt(s -> s.place)
            .thenComparingInt(s -> s.should).thenComparingLong(s -> s.change));
        return slips;
    }

    private List<Slip> ones(boolean narrow) {
        List<Slip> found = new ArrayList<>();
        int out = outOf(null);
        for (Slip slip : slips()) {
            if (out != 0 && out + slip.change == 0 && (!narrow || isNarrow(slip))) {
                found.add(slip);
            }
        }
        return found;
    }

    private boolean isNarrow(Slip slip) {
        boolean free = false;
        for (int page = 0; page < 6; page++) {
            int touched = slip.kind == 5 ? -1 : slip.kind == 6 ? slip.place : entries.get(slip.place).page;
            long out = outOf(page) + (touched == page ? slip.change : 0);
            if (dues[page] != null && out != dues[page]) {
                return false;
            }
            free |= dues[page] == null;
        }
        return slip.kind != 5 || free;
    }

    int one(int i, int what, boolean narrow) {
        if (i < -1 || what < 0 || what > 4) {
            return OUTSIDE;
        }
        List<Slip> ones = ones(narrow);
        if (i == -1) {
            return ones.size();
        }
        if (i >= ones.size()) {
            return NONE;
        }
        Slip slip = ones.get(i);
        return (int) new long[] {slip.kind, slip.place, slip.should, slip.change + LIFT, slip.weight}[what];
    }

    int ofKind(int kind) {
        if (kind < 0 || kind > 6) {
            return UNKNOWN;
        }
        int many = 0;
        for (Slip slip : ones(false)) {
            many += slip.kind == kind ? 1 : 0;
        }
        return many;
    }

    private List<Slip[]> pairs(boolean hides) {
        List<Slip> slips = slips();
        slips.removeIf(s -> s.kind == 5);
        long out = hides ? 0 : outOf(null);
        List<Slip[]> pairs = new ArrayList<>();
        for (int a = 0; a < slips.size(); a++) {
            for (int b = a + 1; b < slips.size(); b++) {
                Slip first = slips.get(a), next = slips.get(b);
                boolean samePlace = first.isAtPage() == next.isAtPage() && first.place == next.place;
                if (!samePlace && out + first.change + next.change == 0) {
                    pairs.add(new Slip[] {first, next});
                }
            }
        }
        return pairs;
    }

    private static long weights(List<Slip[]> pairs) {
        long all = 0;
        for (Slip[] pair : pairs) {
            all += pair[0].weight * pair[1].weight;
        }
        return all;
    }

    long two(int what) {
        return what < 0 || what > 1 ? OUTSIDE : what == 0 ? pairs(false).size() : weights(pairs(false));
    }

    long hide(int what) {
        return what < 0 || what > 1 ? OUTSIDE : what == 0 ? pairs(true).size() : weights(pairs(true));
    }

    int pair(boolean hides, int what) {
        if (what < 0 || what > 5) {
            return OUTSIDE;
        }
        Slip[] likeliest = null;
        for (Slip[] pair : pairs(hides)) {
            if (likeliest == null || pair[0].weight * pair[1].weight > likeliest[0].weight * likeliest[1].weight) {
                likeliest = pair;
            }
        }
        if (likeliest == null) {
            return NONE;
        }
        Slip slip = likeliest[what / 3];
        return what % 3 == 0 ? slip.kind : what % 3 == 1 ? slip.place : slip.should;
    }

    private static long part(long above, long below, int part) {
        BigInteger a = BigInteger.valueOf(above), b = BigInteger.valueOf(below);
        return (part == 0 ? a : b).divide(a.gcd(b)).longValueExact();
    }

    long chance(int i, int part) {
        List<Slip> ones = ones(false);
        if (i < 0 || i >= ones.size()) {
            return UNKNOWN;
        }
        if (part != 0 && part != 1) {
            return OUTSIDE;
        }
        long all = 0;
        for (Slip slip : ones) {
            all += 100 * slip.weight;
        }
        return part(100 * ones.get(i).weight, all + second * weights(pairs(false)), part);
    }

    int whose(int hand, int part) {
        if (hand < 0 || hand > 3) {
            return UNKNOWN;
        }
        if (part != 0 && part != 1) {
            return OUTSIDE;
        }
        List<Slip> ones = ones(false);
        if (ones.isEmpty()) {
            return NOT;
        }
        long his = 0, all = 0;
        for (Slip slip : ones) {
            all += slip.weight;
            his += slip.kind < 5 && entries.get(slip.place).hand == hand ? slip.weight : 0;
        }
        return (int) part(his, all, part);
    }

    private Map<Integer, Long> weightsByEntry(boolean narrow) {
        Map<Integer, Long> weights = new HashMap<>();
        for (Slip slip : ones(narrow)) {
            if (slip.kind < 5) {
                weights.merge(slip.place, slip.weight, Long::sum);
            }
        }
        return weights;
    }

    private long figuresOf(int entry) {
        return String.valueOf(entries.get(entry).sum).length();
    }

    private List<Integer> looks(boolean narrow) {
        Map<Integer, Long> weights = weightsByEntry(narrow);
        List<Integer> order = new ArrayList<>(weights.keySet());
        order.sort((a, b) -> {
            int byRate = Long.compare(weights.get(b) * figuresOf(a), weights.get(a) * figuresOf(b));
            return byRate != 0 ? byRate : Integer.compare(a, b);
        });
        return order;
    }

    int look(int i, boolean narrow) {
        if (i < -1) {
            return OUTSIDE;
        }
        List<Integer> order = looks(narrow);
        return i == -1 ? order.size() : i < order.size() ? order.get(i) : NONE;
    }

    int mean(boolean narrow, int part) {
        if (part != 0 && part != 1) {
            return OUTSIDE;
        }
        Map<Integer, Long> weights = weightsByEntry(narrow);
        if (weights.isEmpty()) {
            return NOT;
        }
        long figures = 0, above = 0, below = 0;
        for (int entry : looks(narrow)) {
            figures += figuresOf(entry);
            above += figures * weights.get(entry);
            below += weights.get(entry);
        }
        return (int) part(above, below, part);
    }

    int judge(int entry, int side, int sum) {
        if (!has(entry)) {
            return UNKNOWN;
        }
        if (side < 0 || side > 1 || sum < 0 || sum > 999999) {
            return OUTSIDE;
        }
        Entry e = entries.get(entry);
        if (side == e.side && turns(e.sum).contains(sum)) {
            return 0;
        }
        if (side == e.side && figures(e.sum).containsKey(sum)) {
            return 1;
        }
        if (side == e.side && noughts(e.sum).contains(sum)) {
            return 2;
        }
        if (side != e.side && sum == e.sum) {
            return 3;
        }
        return side == e.side && sum == 0 && isTwice(entry) ? 4 : NONE;
    }

    // ---- the other book

    int other(int sum) {
        if (sum < 1 || sum > 999999) {
            return OUTSIDE;
        }
        if (lines.size() == 12) {
            return FULL;
        }
        lines.add(sum);
        return lines.size();
    }

    int match(int n, int i) {
        if (n < 0 || n > 12 || n > entries.size() || i < -1 || i >= n) {
            return OUTSIDE;
        }
        int[] best = bestWay(0, 0, n, new HashMap<>());
        return i == -1 ? best[n] : best[i] == lines.size() ? NONE : best[i];
    }

    /** Of entries and lines from some on: the line of each entry (as many as there are lines: none), then the cost. */
    private int[] bestWay(int entry, int line, int n, Map<Integer, int[]> known) {
        int key = entry * 100 + line;
        if (known.containsKey(key)) {
            return known.get(key);
        }
        int[] best = null;
        if (entry == n) {
            best = new int[n + 1];
            best[n] = lines.size() - line;
        } else {
            for (int to = line; to <= lines.size(); to++) {
                boolean none = to == lines.size();
                int price = none ? 1 : price(entries.get(entry).sum, lines.get(to)) + to - line;
                if (price < 100) {
                    int[] rest = bestWay(entry + 1, none ? line : to + 1, n, known).clone();
                    rest[entry] = to;
                    rest[n] += price;
                    if (best == null || isBetter(rest, best, entry, n)) {
                        best = rest;
                    }
                }
            }
        }
        known.put(key, best);
        return best;
    }

    private static boolean isBetter(int[] way, int[] best, int from, int n) {
        if (way[n] != best[n]) {
            return way[n] < best[n];
        }
        for (int i = from; i < n; i++) {
            if (way[i] != best[i]) {
                return way[i] < best[i];
            }
        }
        return false;
    }

    private static int price(int sum, int line) {
        if (sum == line) {
            return 0;
        }
        boolean near = turns(sum).contains(line) || figures(sum).containsKey(line) || noughts(sum).contains(line);
        return near ? 1 : 1000;
    }

    int count(int what) {
        switch (what) {
            case 0: return entries.size();
            case 1: return text.length();
            case 2: return lines.size();
            case 3: return missed;
            case 4: return carry;
            case 5: return second;
            default: return OUTSIDE;
        }
    }
}
