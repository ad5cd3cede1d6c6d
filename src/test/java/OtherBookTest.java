/** Promises 24 and 25: the other book. Each due answer was worked out by hand. */
public final class OtherBookTest {
    private static final int LEAST = Integer.MIN_VALUE, MOST = Integer.MAX_VALUE;
    private static final Check CHECK = new Check("OtherBookTest");

    public static void main(String[] args) {
        other();
        matchAlike();
        matchNear();
        matchTies();
        matchOutside();
        matchFollowsTheBook();
        matchTwelve();
        CHECK.finish();
    }

    private static void due(String call, long got, long want) {
        CHECK.due(call, got, want);
    }

    /** An object with entries of these sums, and with these lines of the other book. */
    static NinePence books(int[] sums, int... lines) {
        NinePence x = new NinePence();
        for (int i = 0; i < sums.length; i++) {
            Check.tell(x, (i % 2 == 0 ? "left " : "right ") + sums[i] + " 0 0 0");
            x.book();
        }
        for (int line : lines) {
            x.other(line);
        }
        return x;
    }

    private static int[] sums(int... sums) {
        return sums;
    }

    private static void matchDue(NinePence x, int n, int cost, int... lines) {
        due("25 match(" + n + ", -1)", x.match(n, -1), cost);
        for (int i = 0; i < lines.length; i++) {
            due("25 match(" + n + ", " + i + ")", x.match(n, i), lines[i]);
        }
    }

    // 24
    private static void other() {
        NinePence x = new NinePence();
        for (int wrong : new int[] {0, -1, 1000000, LEAST, MOST}) {
            due("24 other(" + wrong + ")", x.other(wrong), NinePence.OUTSIDE);
        }
        due("24 other(1)", x.other(1), 1);
        due("24 other(999999)", x.other(999999), 2);
        for (int i = 3; i <= 12; i++) {
            due("24 other(7)", x.other(7), i);
        }
        due("24 other(7) is too many", x.other(7), NinePence.FULL);
        due("24 OUTSIDE ahead of FULL", x.other(0), NinePence.OUTSIDE);
        due("24 count(2)", x.count(2), 12);
        due("24 only the other book", x.count(0), 0);
    }

    // 25
    private static void matchAlike() {
        matchDue(books(sums()), 0, 0);
        matchDue(books(sums(), 5, 6), 0, 2);
        matchDue(books(sums(50, 600)), 2, 2, -1, -1);
        matchDue(books(sums(50, 600, 7000), 50, 600, 7000), 3, 0, 0, 1, 2);
        matchDue(books(sums(50, 600, 7000), 50, 7000), 3, 1, 0, -1, 1);
        matchDue(books(sums(50, 7000), 50, 600, 7000), 2, 1, 0, 2);
        // No crossing: of the two, one goes with its line.
        matchDue(books(sums(50, 7000), 7000, 50), 2, 2, 1, -1);
        // Only the first n count, the other book always does whole.
        matchDue(books(sums(50, 600, 7000), 50, 600, 7000), 1, 2, 0);
        matchDue(books(sums(50, 600, 7000), 50, 600, 7000), 0, 3);
        // Sides do not matter, and neither does what comes behind.
        matchDue(books(sums(50, 50), 50, 50), 2, 0, 0, 1);
    }

    private static void matchNear() {
        matchDue(books(sums(1263), 1236), 1, 1, 0);
        matchDue(books(sums(2163), 1263), 1, 1, 0);
        matchDue(books(sums(1263), 1269), 1, 1, 0);
        matchDue(books(sums(1263), 9263), 1, 1, 0);
        matchDue(books(sums(5), 9), 1, 1, 0);
        matchDue(books(sums(126), 1260), 1, 1, 0);
        matchDue(books(sums(1260), 126), 1, 1, 0);
        matchDue(books(sums(999999), 99999), 1, 2, -1);
        matchDue(books(sums(100000), 10000), 1, 1, 0);
        matchDue(books(sums(1263), 3261), 1, 2, -1);
        matchDue(books(sums(1263), 1362), 1, 2, -1);
        matchDue(books(sums(1263), 1254), 1, 2, -1);
        matchDue(books(sums(5), 70), 1, 2, -1);
        matchDue(books(sums(126), 12600), 1, 2, -1);
        matchDue(books(sums(10), 1), 1, 1, 0);
        matchDue(books(sums(12, 21), 21), 2, 1, -1, 0);
        matchDue(books(sums(100, 200, 300), 200, 300, 100), 3, 2, -1, 0, 1);
    }

    private static void matchTies() {
        matchDue(books(sums(5, 5), 5), 2, 1, 0, -1);
        matchDue(books(sums(5), 5, 5), 1, 1, 0);
        matchDue(books(sums(5, 5), 5, 5, 5), 2, 1, 0, 1);
        matchDue(books(sums(70, 5, 70), 5, 70), 3, 1, -1, 0, 1);
        // Two near pairs cost as much as one alike and two left: the first entry's least line decides.
        matchDue(books(sums(12, 21), 21, 12), 2, 2, 0, 1);
        // 5-9 and 9-5 near (2), or 9-9 alike with 5 left on either side (2): line 0 for the first entry.
        matchDue(books(sums(5, 9), 9, 5), 2, 2, 0, 1);
        // The second of entries may only then have its least line: 5-5, then 30 left and 31-31, or 30-31 and 31 left.
        matchDue(books(sums(5, 30, 31), 5, 31), 3, 1, 0, -1, 1);
        matchDue(books(sums(5, 30, 32), 5, 31), 3, 2, 0, 1, -1);
        // No line comes last: 30 near 31 and 400 left cost as much as 30 left and 400 near 401.
        matchDue(books(sums(30, 400), 401, 31), 2, 3, 1, -1);
    }

    private static void matchOutside() {
        NinePence x = books(sums(50, 600, 7000), 50, 600);
        for (int n : new int[] {-1, 4, 12, 13, LEAST, MOST}) {
            due("25 match(" + n + ", -1)", x.match(n, -1), NinePence.OUTSIDE);
        }
        for (int i : new int[] {-2, 3, LEAST, MOST}) {
            due("25 match(3, " + i + ")", x.match(3, i), NinePence.OUTSIDE);
        }
        due("25 match(2, 2)", x.match(2, 2), NinePence.OUTSIDE);
        due("25 match(0, 0)", x.match(0, 0), NinePence.OUTSIDE);
        due("25 match(3, 2)", x.match(3, 2), NinePence.NONE);
    }

    private static void matchFollowsTheBook() {
        NinePence x = books(sums(50, 600, 7000), 50, 7000);
        matchDue(x, 3, 1, 0, -1, 1);
        x.other(600);
        matchDue(x, 3, 2, 0, 2, -1);
        x.mend(2, 0, 600);
        matchDue(x, 3, 2, 0, 2, -1);
        x.mend(1, 0, 7000);
        matchDue(x, 3, 0, 0, 1, 2);
        x.strike(1);
        matchDue(x, 2, 1, 0, 2);
    }

    private static void matchTwelve() {
        int[] sums = new int[13];
        for (int i = 0; i < 13; i++) {
            sums[i] = (i + 1) * 1111;
        }
        NinePence x = books(sums, java.util.Arrays.copyOf(sums, 12));
        matchDue(x, 12, 0, 0, 1, 2, 3, 4, 5, 6, 7, 8, 9, 10, 11);
        due("25 match(13, -1)", x.match(13, -1), NinePence.OUTSIDE);
        NinePence y = books(sums, 13, 26, 39, 52, 65, 78, 91, 104, 117, 130, 143, 156);
        matchDue(y, 12, 24, -1, -1, -1, -1, -1, -1, -1, -1, -1, -1, -1, -1);
    }
}
