/** The edges of the other book and of MATCH (3), and of promises 24 and 25. */
final class OtherBookEdges {
    private static final int LEAST = Integer.MIN_VALUE, MOST = Integer.MAX_VALUE;
    private static final int NONE = NinePence.NONE, OUTSIDE = NinePence.OUTSIDE, FULL = NinePence.FULL;

    private final Sentences edges;

    OtherBookEdges(Sentences edges) {
        this.edges = edges;
    }

    void ask() {
        linesAreTwelve();
        firstSoMany();
        noneCrossing();
        alike();
        oneSlipApart();
        leastCost();
        leastLines();
        promiseOther();
        promiseMatch();
    }

    private void due(String call, long got, long want) {
        edges.due(call, got, want);
    }

    private static int[] sums(int... sums) {
        return sums;
    }

    private static NinePence books(int[] sums, int... lines) {
        return OtherBookTest.books(sums, lines);
    }

    private void matchDue(NinePence x, int n, int cost, int... lines) {
        due("match(" + n + ", -1)", x.match(n, -1), cost);
        for (int i = 0; i < n; i++) {
            due("match(" + n + ", " + i + ")", x.match(n, i), lines[i]);
        }
    }

    private void linesAreTwelve() {
        edges.of("THE OTHER BOOK is a row of SUMS, 12 at most.");
        NinePence x = books(sums(12));
        matchDue(x, 1, 1, NONE);
        for (int i = 1; i <= 12; i++) {
            due("other(" + i + ")", x.other(i), i);
            due("count(2)", x.count(2), i);
        }
        due("other(13)", x.other(13), FULL);
        due("count(2)", x.count(2), 12);
        // 12 is the last of its lines.
        matchDue(x, 1, 11, 11);
        due("erase()", x.erase(), 0);
        due("count(2): it is no part of THE TEXT", x.count(2), 12);
        due("strike(0)", x.strike(0), 0);
        due("count(2): nor of the entries", x.count(2), 12);
    }

    private void firstSoMany() {
        edges.of("MATCH with the first so many ENTRIES (12 at most; their SUMS in order):");
        int[] sums = new int[30];
        for (int i = 0; i < 30; i++) {
            sums[i] = 1111 * (i % 9 + 1) + 100000 * (i / 9);
        }
        NinePence x = books(sums, java.util.Arrays.copyOf(sums, 12));
        for (int n = 0; n <= 12; n++) {
            int[] lines = new int[n];
            for (int i = 0; i < n; i++) {
                lines[i] = i;
            }
            matchDue(x, n, 12 - n, lines);
        }
        due("match(13, -1)", x.match(13, -1), OUTSIDE);
        due("match(30, -1)", x.match(30, -1), OUTSIDE);
        matchDue(new NinePence(), 0, 0);
        matchDue(books(sums()), 0, 0);
        matchDue(books(sums(), 7), 0, 1);
        matchDue(books(sums(7)), 1, 1, NONE);
        matchDue(books(sums(7), 8000), 0, 1);
        // Struck out, the next ones are the first.
        NinePence y = books(sums(50, 600, 7000), 600, 7000);
        matchDue(y, 2, 2, NONE, 0);
        y.strike(0);
        matchDue(y, 2, 0, 0, 1);
        y.mend(0, 0, 7000);
        y.mend(1, 1, 600);
        matchDue(y, 2, 2, 1, NONE);
    }

    private void noneCrossing() {
        edges.of("pairs in order, none crossing;");
        matchDue(books(sums(50, 7000), 7000, 50), 2, 2, 1, NONE);
        matchDue(books(sums(50, 600, 7000), 7000, 600, 50), 3, 4, 2, NONE, NONE);
        matchDue(books(sums(50, 600, 7000), 600, 7000, 50), 3, 2, NONE, 0, 1);
        matchDue(books(sums(50, 600, 7000), 7000, 50, 600), 3, 2, 1, 2, NONE);
        // One line goes with one entry, and one entry with one line.
        matchDue(books(sums(50, 50), 50), 2, 1, 0, NONE);
        matchDue(books(sums(50), 50, 50), 1, 1, 0);
        matchDue(books(sums(50, 50, 50), 50, 50), 3, 1, 0, 1, NONE);
    }

    private void alike() {
        edges.of("two alike cost 0;");
        for (int sum : new int[] {1, 9, 10, 100000, 999999}) {
            matchDue(books(sums(sum), sum), 1, 0, 0);
        }
        // Whatever its side is, and whoever wrote it.
        NinePence x = Check.told("right 70 7 3 5;left 800 0 0 0");
        x.other(70);
        x.other(800);
        matchDue(x, 2, 0, 0, 1);
        // One alike is better than one near ahead of it.
        matchDue(books(sums(12), 21, 12), 1, 1, 1);
        matchDue(books(sums(12), 12, 21), 1, 1, 0);
    }

    private void oneSlipApart() {
        edges.of("two of which one becomes the other by TURN, NOUGHT (READ does not matter: or by one figure that is other) 1;");
        int[][] near = {{12, 21}, {120, 102}, {123456, 123465}, {123456, 213456}, {100001, 100010}, {1, 10}, {10, 100},
            {99999, 999990}, {10000, 100000}, {1, 9}, {5, 6}, {10, 19}, {10, 90}, {999999, 199999}, {999999, 999990}, {100, 900}};
        int[][] far = {{12, 13 * 2}, {10, 2}, {12, 20 + 3}, {321, 123}, {1234, 2143}, {1, 100}, {100000, 999999}, {999999, 99999},
            {5, 55}, {11, 1}, {102, 12}, {1023, 123}, {100, 1}, {120, 21}, {5, 15}, {999999, 1}};
        for (int way = 0; way < 2; way++) {
            for (int[] two : near) {
                matchDue(books(sums(two[way]), two[1 - way]), 1, 1, 0);
            }
            for (int[] two : far) {
                matchDue(books(sums(two[way]), two[1 - way]), 1, 2, NONE);
            }
        }
        // Odds and READ of 0 do not matter.
        NinePence x = Check.told("left 12 0 0 0;left 300 0 0 0;left 7 0 0 0", PairEdges.only(0, NONE));
        x.other(21);
        x.other(30);
        x.other(8);
        matchDue(x, 3, 3, 0, 1, 2);
        // The side told wrongly, or the line twice, makes no two sums unlike.
        matchDue(books(sums(5, 5), 5, 5), 2, 0, 0, 1);
    }

    private void leastCost() {
        edges.of("each that has none 1: the least cost;");
        int[] unlike = {13, 26, 39, 52, 65, 78, 91, 104, 117, 130, 143, 156};
        int[] sums = {1111, 2222, 3333, 4444, 5555, 6666, 7777, 8888, 9999, 11111, 22222, 33333};
        int[] none = new int[12];
        java.util.Arrays.fill(none, NONE);
        matchDue(books(sums, unlike), 12, 24, none);
        matchDue(books(sums), 12, 12, none);
        due("match(0, -1) of twelve lines", books(sums, unlike).match(0, -1), 12);
        matchDue(books(sums, sums), 12, 0, 0, 1, 2, 3, 4, 5, 6, 7, 8, 9, 10, 11);
        // Each one figure other: twelve pairs of cost 1.
        int[] near = new int[12];
        for (int i = 0; i < 12; i++) {
            near[i] = sums[i] + (i == 8 ? -1 : 1);
        }
        matchDue(books(sums, near), 12, 12, 0, 1, 2, 3, 4, 5, 6, 7, 8, 9, 10, 11);
        // One left over at the first, in the middle, at the last.
        matchDue(books(sums(50, 600, 7000), 600, 7000), 3, 1, NONE, 0, 1);
        matchDue(books(sums(50, 600, 7000), 50, 7000), 3, 1, 0, NONE, 1);
        matchDue(books(sums(50, 600, 7000), 50, 600), 3, 1, 0, 1, NONE);
        matchDue(books(sums(600, 7000), 50, 600, 7000), 2, 1, 1, 2);
        matchDue(books(sums(50, 7000), 50, 600, 7000), 2, 1, 0, 2);
        matchDue(books(sums(50, 600), 50, 600, 7000), 2, 1, 0, 1);
        // A near pair is better than two left over, two alike better than two near ones.
        matchDue(books(sums(12, 600), 21, 600), 2, 1, 0, 1);
        matchDue(books(sums(12, 21, 13), 21, 13), 3, 1, NONE, 0, 1);
    }

    private void leastLines() {
        edges.of("of all least ways the pairs of the first ENTRY the least line, then of the next (no line last).");
        matchDue(books(sums(5), 5, 5, 5), 1, 2, 0);
        matchDue(books(sums(5, 5), 5, 5, 5), 2, 1, 0, 1);
        // Near with line 0 and line 1 left, or line 0 left and near with line 1.
        matchDue(books(sums(5), 6, 7), 1, 2, 0);
        // Two near, or one alike and two left over: the first entry's least line.
        matchDue(books(sums(12, 21), 21, 12), 2, 2, 0, 1);
        matchDue(books(sums(5, 9), 9, 5), 2, 2, 0, 1);
        // The first entry with the last line is ahead of the first entry with none.
        matchDue(books(sums(50, 7000), 7000, 50), 2, 2, 1, NONE);
        matchDue(books(sums(30, 400), 401, 31), 2, 3, 1, NONE);
        matchDue(books(sums(30, 400, 400), 400, 400, 30), 3, 2, NONE, 0, 1);
        // Then of the next: the first is settled, the second and third take what is left.
        matchDue(books(sums(5, 30, 31), 5, 31), 3, 1, 0, NONE, 1);
        matchDue(books(sums(5, 30, 32), 5, 31), 3, 2, 0, 1, NONE);
        matchDue(books(sums(5, 30, 700), 5, 700, 30), 3, 2, 0, 2, NONE);
        matchDue(books(sums(800, 5, 9), 800, 9, 5), 3, 2, 0, 1, 2);
        // Of twelve lines alike, the first ones.
        NinePence x = books(sums(7, 7, 7), 7, 7, 7, 7, 7, 7, 7, 7, 7, 7, 7, 7);
        matchDue(x, 3, 9, 0, 1, 2);
        matchDue(x, 2, 10, 0, 1);
        matchDue(books(sums(7, 7, 7, 7, 7, 7, 7, 7, 7, 7, 7, 7), 7), 12, 11, 0, NONE, NONE, NONE, NONE, NONE, NONE, NONE,
            NONE, NONE, NONE, NONE);
    }

    private void promiseOther() {
        edges.of("A SUM more of THE OTHER BOOK: how many. OUTSIDE; FULL.");
        NinePence x = new NinePence();
        for (int sum : new int[] {LEAST, -1, 0, 1000000, 1000001, MOST}) {
            due("other(" + sum + ")", x.other(sum), OUTSIDE);
        }
        due("count(2)", x.count(2), 0);
        due("other(1)", x.other(1), 1);
        due("other(999999)", x.other(999999), 2);
        for (int i = 3; i <= 12; i++) {
            due("other(5)", x.other(5), i);
        }
        due("other(5) of thirteen", x.other(5), FULL);
        for (int sum : new int[] {LEAST, -1, 0, 1000000, MOST}) {
            due("OUTSIDE ahead of FULL, other(" + sum + ")", x.other(sum), OUTSIDE);
        }
        due("count(2)", x.count(2), 12);
        due("match(0, -1)", x.match(0, -1), 12);
    }

    private void promiseMatch() {
        edges.of("MATCH with the first n ENTRIES (0 .. 12): the least cost (i -1), or the line with which ENTRY i goes;"
            + " NONE: with none. OUTSIDE: n (also more than there are), i (-1 .. n - 1).");
        NinePence five = books(sums(50, 600, 7000, 80000, 900000), 50, 7000);
        matchDue(five, 5, 3, 0, NONE, 1, NONE, NONE);
        for (int n : new int[] {LEAST, -2, -1, 6, 12, 13, 30, MOST}) {
            for (int i : new int[] {LEAST, -1, 0, 4, 5, 11, MOST}) {
                due("match(" + n + ", " + i + ")", five.match(n, i), OUTSIDE);
            }
        }
        for (int n = 0; n <= 5; n++) {
            for (int i : new int[] {LEAST, -3, -2, n, n + 1, 12, MOST}) {
                due("match(" + n + ", " + i + ")", five.match(n, i), OUTSIDE);
            }
        }
        NinePence full = BookEdges.bookOf(30, "left", 5);
        due("match(12, 11)", full.match(12, 11), NONE);
        due("match(12, 12)", full.match(12, 12), OUTSIDE);
        due("match(13, 12)", full.match(13, 12), OUTSIDE);
        due("match(13, -1)", full.match(13, -1), OUTSIDE);
        NinePence twelve = BookEdges.bookOf(12, "left", 5);
        due("match(12, -1)", twelve.match(12, -1), 12);
        due("strike(0)", twelve.strike(0), 11);
        due("match(12, -1) of eleven", twelve.match(12, -1), OUTSIDE);
        due("match(11, -1) of eleven", twelve.match(11, -1), 11);
        due("match(0, -1) of nothing", new NinePence().match(0, -1), 0);
        due("match(0, 0) of nothing", new NinePence().match(0, 0), OUTSIDE);
        due("match(1, -1) of nothing", new NinePence().match(1, -1), OUTSIDE);
    }
}
