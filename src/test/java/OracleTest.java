import java.nio.charset.StandardCharsets;

/** Made-up runs of calls, the same each time, answered by the class and by the oracle. */
public final class OracleTest {
    private static final int RUNS = 1500, CALLS = 120;

    private final Check check;
    private final NinePence x = new NinePence();
    private final Oracle oracle = new Oracle();
    private final int run;
    private long state;

    private OracleTest(Check check, int run) {
        this.check = check;
        this.run = run;
        this.state = run * 7919L + 12345;
    }

    public static void main(String[] args) {
        Check check = new Check("OracleTest");
        for (int run = 0; run < RUNS; run++) {
            OracleTest test = new OracleTest(check, run);
            if (run % 2 == 0) {
                test.fillBook();
            } else {
                test.plantSlips();
            }
            for (int call = 0; call < CALLS; call++) {
                // Behind planted slips most calls ask, and few change.
                test.call(run % 2 == 0 || call % 30 == 29 ? test.below(30) : 9 + test.below(21));
            }
        }
        new OracleTest(check, RUNS).askCrowded(123456, 98765, 654321);
        new OracleTest(check, RUNS + 1).askCrowded(123450, 123450, 123450);
        check.finish();
    }

    // As many slips as there can be: thirty sums of six unlike figures, most of them twice, and each figure read as any other.
    private void askCrowded(int first, int next, int last) {
        for (int figure = 0; figure < 10; figure++) {
            StringBuilder reads = new StringBuilder("carry 99");
            for (int other = 0; other < 10; other++) {
                if (other != figure) {
                    reads.append(";read ").append(figure).append(' ').append(other).append(" 99");
                }
            }
            tell(reads.toString());
        }
        for (int hand = 0; hand < 4; hand++) {
            tell("hand " + hand + " 0 99;hand " + hand + " 1 99;hand " + hand + " 2 99;hand " + hand + " 3 99;hand " + hand + " 4 99");
        }
        for (int i = 0; i < 30; i++) {
            tell((i % 2 == 0 ? "left " : "right ") + (i < 10 ? first : i < 20 ? next : last) + " 0 " + i % 4 + " " + i % 6);
        }
        for (int i = 0; i < 6; i++) {
            due("two", x.two(i % 2), oracle.two(i % 2));
            due("hide", x.hide(i % 2), oracle.hide(i % 2));
            due("pair(true)", x.pair(true, i), oracle.pair(true, i));
            due("pair(false)", x.pair(false, i), oracle.pair(false, i));
            due("one", x.one(i - 1, 2, false), oracle.one(i - 1, 2, false));
            due("chance", x.chance(i, 1), oracle.chance(i, 1));
            balanceByLast();
        }
    }

    // A fixed row of numbers that looks like none: the same calls always, and no source of chance.
    private int below(int bound) {
        state = state * 6364136223846793005L + 1442695040888963407L;
        return (int) ((state >>> 33) % bound);
    }

    /** Mostly 0 .. bound - 1, now and then just outside. */
    private int near(int bound) {
        int way = below(40);
        return way == 0 ? -1 : way == 1 ? bound : way == 2 ? -2 - below(1 << 30) : way == 3 ? bound + below(1 << 30) : below(bound);
    }

    private int sum() {
        int[] base = {1236, 1263, 500, 50, 700, 100, 90, 81, 9, 27, 1000, 10, 110, 120, 210, 201, 5, 999999, 100000};
        switch (below(6)) {
            case 0:
                return 1 + below(999999);
            case 1:
                return 1 + below(300);
            case 2:
                return 1 + below(20);
            default:
                return base[below(run % 3 == 0 ? 6 : base.length)];
        }
    }

    private String line() {
        switch (below(14)) {
            case 0:
                return "hand " + below(4) + " " + below(5) + " " + below(100);
            case 1:
            case 2:
                int figure = below(10);
                return "read " + figure + " " + (figure + 1 + below(9)) % 10 + " " + below(100);
            case 3:
                return "missed " + below(100);
            case 4:
                return "carry " + (below(2) == 0 ? 0 : below(100));
            case 5:
                return "second " + below(100);
            case 6:
                return "page " + below(6) + (below(2) == 0 ? " free" : below(2) == 0 ? " left 0" : " left " + sum());
            case 7:
                return "page " + below(6) + " right " + sum();
            default:
                return (below(2) == 0 ? "left " : "right ") + sum() + " " + below(3) + " " + below(4) + " " + below(run % 5 == 0 ? 2 : 6);
        }
    }

    private String text() {
        StringBuilder text = new StringBuilder(line());
        int lines = below(11);
        for (int i = 0; i < lines && text.length() < 180; i++) {
            text.append(below(3) == 0 ? " ; " : ";").append(line());
        }
        if (below(4) == 0) {
            spoil(text);
        }
        return text.toString();
    }

    private void spoil(StringBuilder text) {
        int at = below(text.length());
        switch (below(5)) {
            case 0:
                text.setCharAt(at, (char) below(256));
                break;
            case 1:
                text.insert(at, (char) ('0' + below(10)));
                break;
            case 2:
                text.insert(at, ' ');
                break;
            case 3:
                text.deleteCharAt(at);
                break;
            default:
                text.setLength(at);
                break;
        }
    }

    private void fillBook() {
        int texts = 1 + below(4);
        for (int i = 0; i < texts; i++) {
            write(text());
            fault();
            book();
            erase();
        }
    }

    // A book that agreed, page by page as due, until a slip or two were made in it.
    private void plantSlips() {
        for (int texts = below(4); texts > 0; texts--) {
            StringBuilder reads = new StringBuilder("hand " + below(4) + " " + below(5) + " " + below(100));
            for (int i = 0; i < 9; i++) {
                int figure = below(10);
                reads.append(";read ").append(figure).append(' ').append((figure + 1 + below(9)) % 10).append(' ').append(below(100));
            }
            tell(reads.toString());
        }
        for (int texts = 1 + below(3); texts > 0; texts--) {
            StringBuilder entries = new StringBuilder("second " + below(100));
            for (int i = 0; i < 4; i++) {
                int sum = sum();
                entries.append(";left ").append(sum).append(' ').append(below(2)).append(' ').append(below(4)).append(' ').append(below(6));
                entries.append(";right ").append(sum).append(' ').append(below(2)).append(' ').append(below(4)).append(' ').append(below(6));
            }
            tell(entries.toString());
        }
        for (int page = 0; page < 6; page++) {
            int out = oracle.out(page) - 50000000;
            if (below(3) == 0 && Math.abs(out) <= 999999) {
                tell("page " + page + (out < 0 ? " right " : " left ") + Math.abs(out));
            }
        }
        for (int slips = 1 + below(2); slips > 0; slips--) {
            slip(below(oracle.count(0)));
        }
    }

    private void slip(int entry) {
        int side = oracle.entry(entry, 0), sum = oracle.entry(entry, 1);
        StringBuilder figures = new StringBuilder().append(sum);
        int at = below(figures.length());
        switch (below(6)) {
            case 0:
                figures.setCharAt(at, (char) ('1' + below(9)));
                break;
            case 1:
                figures.append('0');
                break;
            case 2:
                figures.setLength(Math.max(1, figures.length() - 1));
                break;
            case 3:
                side = 1 - side;
                break;
            case 4:
                int twin = below(oracle.count(0));
                side = oracle.entry(twin, 0);
                figures = new StringBuilder().append(oracle.entry(twin, 1));
                break;
            default:
                char moved = figures.charAt(at);
                figures.deleteCharAt(at).insert(Math.max(at - 1, 0), moved);
                break;
        }
        int slipped = figures.length() > 6 ? sum : Integer.parseInt(figures.toString());
        due("mend", x.mend(entry, side, slipped), oracle.mend(entry, side, slipped));
    }

    private void tell(String text) {
        write(text);
        book();
        erase();
    }

    private void write(String text) {
        byte[] bytes = text.getBytes(StandardCharsets.ISO_8859_1);
        for (int from = 0; from < bytes.length; from += 8) {
            int n = Math.min(8, bytes.length - from);
            long packed = Check.packed(bytes, from, n);
            due("write", x.write(packed, n), oracle.write(packed, n));
        }
    }

    private void fault() {
        due("fault", x.fault(), oracle.fault());
    }

    private void book() {
        due("book", x.book(), oracle.book());
    }

    private void erase() {
        due("erase", x.erase(), oracle.erase());
    }

    private void due(String call, long got, long want) {
        check.due("run " + run + " " + call, got, want);
    }

    private void call(int sort) {
        int entries = oracle.count(0);
        switch (sort) {
            case 0: {
                write(text());
                fault();
                book();
                break;
            }
            case 1: {
                int n = near(9);
                long bytes = 0x0101010101010101L * below(256);
                due("write(" + bytes + ", " + n + ")", x.write(bytes, n), oracle.write(bytes, n));
                fault();
                break;
            }
            case 2:
                erase();
                break;
            case 3: {
                int e = near(entries + 1), w = near(5);
                due("entry(" + e + ", " + w + ")", x.entry(e, w), oracle.entry(e, w));
                break;
            }
            case 4: {
                int p = near(8) - 1;
                due("out(" + p + ")", x.out(p), oracle.out(p));
                due("off(" + p + ")", x.off(p), oracle.off(p));
                break;
            }
            case 5: {
                int h = near(4), k = near(5);
                due("odds(" + h + ", " + k + ")", x.odds(h, k), oracle.odds(h, k));
                due("learn(" + h + ", " + k + ")", x.learn(h, k), oracle.learn(h, k));
                break;
            }
            case 6: {
                int e = near(entries + 1), s = near(2), n = below(20) == 0 ? near(1000000) : sum();
                due("mend(" + e + ", " + s + ", " + n + ")", x.mend(e, s, n), oracle.mend(e, s, n));
                break;
            }
            case 7: {
                int e = below(3) == 0 ? near(entries + 1) : -1;
                due("strike(" + e + ")", x.strike(e), oracle.strike(e));
                break;
            }
            case 8:
                balanceByLast();
                break;
            case 9:
            case 10:
                due("signs()", x.signs(), oracle.signs());
                break;
            case 11:
            case 12:
            case 13:
            case 14:
                ones();
                break;
            case 15:
            case 16:
                pairs();
                break;
            case 17:
            case 18: {
                int i = near(4), p = near(2);
                due("chance(" + i + ", " + p + ")", x.chance(i, p), oracle.chance(i, p));
                break;
            }
            case 19: {
                int h = near(4), p = near(2);
                due("whose(" + h + ", " + p + ")", x.whose(h, p), oracle.whose(h, p));
                break;
            }
            case 20:
            case 21:
            case 22:
                looks();
                break;
            case 23:
            case 24:
            case 25:
                judge(entries);
                break;
            case 26: {
                int n = below(20) == 0 ? near(1000000) : entries > 0 && below(2) == 0 ? oracle.entry(below(entries), 1) : sum();
                due("other(" + n + ")", x.other(n), oracle.other(n));
                break;
            }
            case 27:
            case 28: {
                int n = near(Math.min(entries, 12) + 2), i = near(n > 0 && n < 14 ? n + 1 : 2) - 1;
                due("match(" + n + ", " + i + ")", x.match(n, i), oracle.match(n, i));
                break;
            }
            default: {
                int w = near(6);
                due("count(" + w + ")", x.count(w), oracle.count(w));
                break;
            }
        }
    }

    // Brings out near 0 by what a slip would change, so that there are single slips to tell.
    private void balanceByLast() {
        int entries = oracle.count(0);
        if (entries == 0) {
            return;
        }
        int last = entries - 1;
        int sign = oracle.entry(last, 0) == 0 ? 1 : -1;
        int[] slips = {9, 90, 27, 10, 100, 1000, 900, 450, 63, 1, 2, 0};
        int wanted = oracle.entry(last, 1) - sign * (oracle.out(-1) - 50000000 - slips[below(slips.length)]);
        if (wanted >= 1 && wanted <= 999999) {
            due("mend", x.mend(last, oracle.entry(last, 0), wanted), oracle.mend(last, oracle.entry(last, 0), wanted));
        }
    }

    private void ones() {
        boolean narrow = below(2) == 0;
        int many = oracle.one(-1, 0, narrow);
        due("one(-1, 0, " + narrow + ")", x.one(-1, 0, narrow), many);
        int i = near(many + 1), w = near(5);
        due("one(" + i + ", " + w + ", " + narrow + ")", x.one(i, w, narrow), oracle.one(i, w, narrow));
        int k = near(7);
        due("ofKind(" + k + ")", x.ofKind(k), oracle.ofKind(k));
    }

    private void pairs() {
        int w = near(2), p = near(6);
        due("two(" + w + ")", x.two(w), oracle.two(w));
        due("hide(" + w + ")", x.hide(w), oracle.hide(w));
        due("pair(false, " + p + ")", x.pair(false, p), oracle.pair(false, p));
        due("pair(true, " + p + ")", x.pair(true, p), oracle.pair(true, p));
    }

    private void looks() {
        boolean narrow = below(2) == 0;
        int i = near(6) - 1, p = near(2);
        due("look(" + i + ", " + narrow + ")", x.look(i, narrow), oracle.look(i, narrow));
        due("mean(" + narrow + ", " + p + ")", x.mean(narrow, p), oracle.mean(narrow, p));
    }

    private void judge(int entries) {
        int e = near(entries + 1), s = near(2);
        int stands = Math.max(0, oracle.entry(e, 1));
        int[] sums = {stands, 0, stands * 10, stands / 10, stands + 9, stands - 9, stands + below(10), stands + 100,
            stands - 90, stands + 900, near(1000000), 1000000 - below(2), -1};
        int n = sums[below(sums.length)];
        due("judge(" + e + ", " + s + ", " + n + ")", x.judge(e, s, n), oracle.judge(e, s, n));
    }
}
