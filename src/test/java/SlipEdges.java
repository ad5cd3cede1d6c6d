/** The edges of single slips: what they are (2), ONE, NARROW, and promises 14 and 15. */
final class SlipEdges {
    private static final int LIFT = 50000000;
    private static final int LEAST = Integer.MIN_VALUE, MOST = Integer.MAX_VALUE;
    private static final int NONE = NinePence.NONE, UNKNOWN = NinePence.UNKNOWN, OUTSIDE = NinePence.OUTSIDE;
    private static final int TURN = 0, FIGURE = 1, NOUGHT = 2, SIDE = 3, TWICE = 4, MISSED = 5, CARRY = 6;

    // Nothing but the kinds that a test speaks of may explain its book.
    private static final String ONLY_TURNS = "hand 0 1 0;hand 0 2 0;hand 0 3 0;hand 0 4 0;missed 0;carry 0";
    private static final String ONLY_FIGURES = "hand 0 0 0;hand 0 2 0;hand 0 3 0;hand 0 4 0;missed 0;carry 0";
    private static final String ONLY_NOUGHTS = "hand 0 0 0;hand 0 1 0;hand 0 3 0;hand 0 4 0;missed 0;carry 0";
    private static final String ONLY_SIDES = "hand 0 0 0;hand 0 1 0;hand 0 2 0;hand 0 4 0;missed 0;carry 0";
    private static final String ONLY_TWICES = "hand 0 0 0;hand 0 1 0;hand 0 2 0;hand 0 3 0;missed 0;carry 0";
    private static final String NO_HAND_0 = "hand 0 0 0;hand 0 1 0;hand 0 2 0;hand 0 3 0;hand 0 4 0";
    // The entries of hand 1 are those without a slip.
    private static final String NO_HAND_1 = "hand 1 0 0;hand 1 1 0;hand 1 2 0;hand 1 3 0;hand 1 4 0";

    private final Sentences edges;

    SlipEdges(Sentences edges) {
        this.edges = edges;
    }

    void ask() {
        placesAndShoulds();
        changes();
        turns();
        figures();
        noughts();
        sides();
        twices();
        weights();
        missed();
        missedOnlySingle();
        carries();
        carryPages();
        carryPageOut();
        carryWeight();
        order();
        weightAboveNought();
        ones();
        narrow();
        narrowMissed();
        promiseOne();
        promiseOfKind();
    }

    private void due(String call, long got, long want) {
        edges.due(call, got, want);
    }

    /** ONE is just these, each with KIND, PLACE, SHOULD, CHANGE and, if told, WEIGHT. */
    private void onesDue(NinePence x, boolean narrow, int[]... slips) {
        due("one(-1, 0, " + narrow + ")", x.one(-1, 0, narrow), slips.length);
        for (int i = 0; i < slips.length; i++) {
            for (int what = 0; what < slips[i].length; what++) {
                due("one(" + i + ", " + what + ", " + narrow + ")", x.one(i, what, narrow), slips[i][what] + (what == 3 ? LIFT : 0));
            }
        }
        for (int what = 0; what < 5; what++) {
            due("one(" + slips.length + ", " + what + ", " + narrow + ")", x.one(slips.length, what, narrow), NONE);
        }
    }

    private static int[] slip(int... parts) {
        return parts;
    }

    private static NinePence told(String... texts) {
        return Check.told(texts);
    }

    private void placesAndShoulds() {
        edges.of("A SLIP is of a KIND, at a PLACE (an ENTRY, 0 .. 29; CARRY: a PAGE), and what SHOULD stand:"
            + " a SUM (1 .. 999999, not what stands);");
        NinePence full = new NinePence();
        for (int i = 0; i < 28; i++) {
            Check.done(full, (i % 2 == 0 ? "left " : "right ") + (700 + i / 2) + " 0 0 0");
        }
        Check.done(full, "right 12 0 1 0;left 21 0 1 0;missed 0;carry 0");
        Check.done(full, NO_HAND_0);
        onesDue(full, false, slip(TURN, 28, 21, -9), slip(TURN, 29, 12, -9));
        onesDue(told("left 20 0 0 0;right 10 0 0 5;missed 0"), false, slip(CARRY, 0, 1, -10), slip(CARRY, 5, 1, -10));
        // The least sum that should stand, and the greatest.
        onesDue(told("left 10 0 0 0;right 1 0 1 0;missed 0;hand 1 2 0"), false, slip(NOUGHT, 0, 1, -9));
        onesDue(told("left 999990 0 0 0;right 999999 0 1 0;read 9 0 5", ONLY_FIGURES), false, slip(FIGURE, 0, 999999, 9));
        onesDue(told("left 111111 0 0 0;right 999999 0 1 0;right 111111 2 1 0", ONLY_NOUGHTS), false);
        // Figures that are alike can not be turned about: the pairs that hide each other are noughts and sides alone.
        NinePence alike = told("left 55 0 0 0;right 55 0 0 0;carry 0");
        due("hide(0) of two 55", alike.hide(0), 2);
        due("judge of 55 for 55", alike.judge(0, 0, 55), NONE);
        NinePence noughts = told("left 222200 0 0 0");
        due("judge of 222200 for itself", noughts.judge(0, 0, 222200), NONE);
        due("judge of 222200 for 222020", noughts.judge(0, 0, 222020), TURN);
    }

    private static NinePence ninety() {
        return told("left 210 0 0 0;right 120 1 1 1;left 190 0 2 2;left 100 0 3 0;right 10 0 0 1;left 45 0 1 3",
            "left 90 3 2 4;left 90 3 3 4;right 505 2 0 5;second 0;missed 11;read 0 9 6",
            "hand 0 0 7;hand 1 0 3;hand 2 1 5;hand 3 2 4;hand 0 2 2;hand 1 3 9;hand 3 4 8");
    }

    private void changes() {
        edges.of("mended, OUT is more by its CHANGE; WEIGHT:");
        int many = ninety().one(-1, 0, false);
        due("one(-1, 0, false)", many, 8);
        for (int i = 0; i < many; i++) {
            NinePence x = ninety();
            int kind = x.one(i, 0, false), place = x.one(i, 1, false), should = x.one(i, 2, false);
            int change = x.one(i, 3, false) - LIFT;
            if (kind == TWICE) {
                x.strike(place);
            } else if (kind == MISSED) {
                Check.done(x, (place == 0 ? "left " : "right ") + should + " 0 0 0");
            } else {
                int side = x.entry(place, 0);
                x.mend(place, kind == SIDE ? 1 - side : side, should);
            }
            due("the change of the slip of kind " + kind, change, -90);
            due("out(-1), mended", x.out(-1), LIFT + 90 + change);
            due("signs(), mended", x.signs(), NinePence.NOT);
        }
        // To the left and to the right, more and less.
        onesDue(told("left 12 0 0 0;right 21 0 1 0;hand 1 0 0;missed 0"), false, slip(TURN, 0, 21, 9));
        onesDue(told("left 21 0 0 0;right 12 0 1 0;hand 1 0 0;missed 0"), false, slip(TURN, 0, 12, -9));
        onesDue(told("right 12 0 0 0;left 21 0 1 0;hand 1 0 0;missed 0"), false, slip(TURN, 0, 21, -9));
        onesDue(told("right 21 0 0 0;left 12 0 1 0;hand 1 0 0;missed 0"), false, slip(TURN, 0, 12, 9));
    }

    // What a sum turned about may be, of all that it may be.
    private static final int[][] TURNS = {{1}, {9}, {10}, {11}, {20}, {12, 21}, {98, 89}, {100}, {101, 110}, {110, 101},
        {105, 150}, {150, 105, 510}, {500}, {1000}, {1001, 1010}, {1090, 1009, 1900}, {1900, 1090, 9100},
        {100000}, {100001, 100010}, {110000, 101000}, {111111}, {999999}, {999998, 999989}, {899999, 989999},
        {123456, 213456, 132456, 124356, 123546, 123465}, {102030, 120030, 100230, 102300, 102003},
        {987654, 897654, 978654, 986754, 987564, 987645}};

    private void turns() {
        edges.of("0 TURN: two figures side by side, unlike, the other way round (the SUM's first one not 0 then).");
        for (int[] turns : TURNS) {
            for (int i = 1; i < turns.length; i++) {
                NinePence x = told("left " + turns[0] + " 0 0 0;right " + turns[i] + " 0 1 0", ONLY_TURNS, NO_HAND_1);
                onesDue(x, false, slip(TURN, 0, turns[i], turns[i] - turns[0], 1));
                due("judge of " + turns[0] + " for " + turns[i], x.judge(0, 0, turns[i]), TURN);
            }
            // All others that have the same figures, or fewer with a nought ahead, are none.
            NinePence y = told("left " + turns[0] + " 0 0 0;right 1 0 1 0", ONLY_TURNS, NO_HAND_1);
            for (int ten = 1; ten <= 100000; ten *= 10) {
                for (int more : new int[] {-9, -1, 1, 9}) {
                    int sum = turns[0] + more * ten;
                    if (sum >= 1 && sum <= 999999) {
                        due("judge of " + turns[0] + " for " + sum, y.judge(0, 0, sum) == TURN ? 1 : 0, holds(turns, sum) ? 1 : 0);
                        y.mend(1, 1, sum);
                        due("turns of " + turns[0] + " that make " + sum, y.ofKind(TURN), holds(turns, sum) ? 1 : 0);
                    }
                }
            }
        }
        // Ahead of a nought: 10 is no 01, 100 no 010, 1023 no 0123; nor are figures that are not side by side.
        for (int[] wrong : new int[][] {{10, 1}, {100, 10}, {1023, 123}, {100000, 10000}, {321, 123}, {1234, 4231}, {1234, 2143}}) {
            NinePence x = told("left " + wrong[0] + " 0 0 0;right " + wrong[1] + " 0 1 0", ONLY_TURNS, NO_HAND_1);
            onesDue(x, false);
            due("judge of " + wrong[0] + " for " + wrong[1], x.judge(0, 0, wrong[1]) == TURN ? 1 : 0, 0);
        }
    }

    private static boolean holds(int[] row, int number) {
        for (int i = 1; i < row.length; i++) {
            if (row[i] == number) {
                return true;
            }
        }
        return false;
    }

    private void figures() {
        edges.of("1 FIGURE: one of them, Y, should be X (the SUM's first one not 0), READ more than 0.");
        // The first figure may be any but 0, the others any.
        for (int x = 0; x < 10; x++) {
            figureDue(500000, 100000, 5, x, x > 0);
            figureDue(150000, 10000, 5, x, true);
            figureDue(111115, 1, 5, x, true);
            figureDue(5, 1, 5, x, x > 0);
            figureDue(50, 10, 5, x, x > 0);
            figureDue(10, 1, 0, x, true);
            figureDue(99, 10, 9, x, x > 0);
            figureDue(999999, 100000, 9, x, x > 0);
        }
        // One of them, not both that are alike; and each where it stands.
        NinePence two = told("left 55 0 0 0;right 33 0 1 0;read 3 5 7", ONLY_FIGURES, NO_HAND_1);
        onesDue(two, false);
        two.mend(1, 1, 35);
        onesDue(two, false, slip(FIGURE, 0, 35, -20, 7));
        two.mend(1, 1, 53);
        onesDue(two, false, slip(FIGURE, 0, 53, -2, 7));
        // Y stands and X should: not the other way; and READ must be more than 0.
        onesDue(told("left 5 0 0 0;right 3 0 1 0;read 5 3 7", ONLY_FIGURES, NO_HAND_1), false);
        onesDue(told("left 5 0 0 0;right 3 0 1 0;read 3 5 0", ONLY_FIGURES, NO_HAND_1), false);
        onesDue(told("left 5 0 0 0;right 3 0 1 0;read 3 5 1", ONLY_FIGURES, NO_HAND_1), false, slip(FIGURE, 0, 3, -2, 1));
        onesDue(told("left 5 0 0 0;right 3 0 1 0", ONLY_FIGURES, NO_HAND_1), false);
        onesDue(told("left 5 0 0 0;right 3 0 1 0;hand 1 1 0;read 3 5 9", "read 3 5 0", ONLY_FIGURES, NO_HAND_1), false);
    }

    // In a sum, the figure at a ten is Y: it should be X, or that can not be.
    private void figureDue(int sum, int ten, int y, int x, boolean can) {
        if (x == y) {
            return;
        }
        int should = sum + (x - y) * ten;
        // What should stand is right on the other side.
        NinePence book = told("left " + sum + " 0 0 0;read " + x + " " + y + " 3", ONLY_FIGURES, NO_HAND_1);
        if (should > 0) {
            Check.done(book, "right " + should + " 0 1 0");
        }
        if (can) {
            onesDue(book, false, slip(FIGURE, 0, should, should - sum, 3));
        } else {
            due("figures of " + sum + ", " + x + " for " + y, book.ofKind(FIGURE), 0);
        }
        if (should > 0) {
            due("judge of " + sum + " for " + should, book.judge(0, 0, should) == FIGURE ? 1 : 0, can ? 1 : 0);
        }
    }

    private void noughts() {
        edges.of("2 NOUGHT: the SUM by ten, if it ends with 0, or ten times it.");
        int[][] noughts = {{1, 10}, {9, 90}, {10, 1, 100}, {15, 150}, {90, 9, 900}, {100, 10, 1000}, {101, 1010},
            {99999, 999990}, {99990, 9999, 999900}, {100000, 10000}, {100001}, {999999}, {999990, 99999}, {100009}};
        for (int[] row : noughts) {
            for (int i = 1; i < row.length; i++) {
                NinePence x = told("left " + row[0] + " 0 0 0;right " + row[i] + " 0 1 0", ONLY_NOUGHTS, NO_HAND_1);
                onesDue(x, false, slip(NOUGHT, 0, row[i], row[i] - row[0], 1));
                due("judge of " + row[0] + " for " + row[i], x.judge(0, 0, row[i]), NOUGHT);
            }
            NinePence y = told("left " + row[0] + " 0 0 0", ONLY_NOUGHTS);
            for (int sum : new int[] {row[0] / 10, row[0] / 10 + 1, row[0] / 100, Math.min(999999, row[0] * 10),
                Math.min(999999, row[0] * 10 + 1), Math.min(999999, row[0] * 100)}) {
                if (sum > 0) {
                    due("judge of " + row[0] + " for " + sum, y.judge(0, 0, sum) == NOUGHT ? 1 : 0, holds(row, sum) ? 1 : 0);
                }
            }
        }
        // 15 by ten is no sum, 1 is what is left of it.
        onesDue(told("left 15 0 0 0;right 1 0 1 0", ONLY_NOUGHTS, NO_HAND_1), false);
        // Ten times 100000 would make out 0 here, but it is no sum: nine times 100000 on the right.
        onesDue(told("right 100000 0 0 0;left 999999 0 1 0;left 1 1 1 0", ONLY_NOUGHTS, NO_HAND_1), false);
    }

    private void sides() {
        edges.of("3 SIDE: the same SUM on the other SIDE.");
        for (int sum : new int[] {1, 5, 10, 999999}) {
            onesDue(told("left " + sum + " 0 0 0;left " + sum + " 1 1 0", ONLY_SIDES, NO_HAND_1), false,
                slip(SIDE, 0, sum, -2 * sum, 1));
            onesDue(told("right " + sum + " 0 0 0;right " + sum + " 1 1 0", ONLY_SIDES, NO_HAND_1), false,
                slip(SIDE, 0, sum, 2 * sum, 1));
        }
        // Out must be twice the sum, on its own side.
        onesDue(told("left 4 0 0 0;right 12 1 1 0", ONLY_SIDES, NO_HAND_1), false);
        onesDue(told("left 4 0 0 0", ONLY_SIDES), false);
        due("judge, other side", told("left 4 0 0 0").judge(0, 1, 4), SIDE);
        due("judge, own side", told("left 4 0 0 0").judge(0, 0, 4), NONE);
        due("judge, another sum on the other side", told("left 4 0 0 0").judge(0, 1, 40), NONE);
    }

    private void twices() {
        edges.of("4 TWICE: an ENTRY of the same SIDE, SUM and ACCOUNT stands ahead of it: it should not stand (SHOULD 0).");
        onesDue(told("left 7 5 1 1;left 7 5 0 2;right 7 5 1 1", ONLY_TWICES), false, slip(TWICE, 1, 0, -7, 1));
        onesDue(told("right 7 5 1 1;right 7 5 0 2;left 7 5 1 1", ONLY_TWICES), false, slip(TWICE, 1, 0, 7, 1));
        // Another side, sum or account is no twin; nor is one that stands behind.
        onesDue(told("left 7 5 1 1;right 7 5 0 2;left 7 4 0 1", ONLY_TWICES), false);
        onesDue(told("left 7 5 1 0;left 7 6 0 0;right 7 5 1 0", ONLY_TWICES), false);
        onesDue(told("left 7 5 0 0;left 7 5 1 0;right 7 5 1 0", ONLY_TWICES, NO_HAND_1), false);
        onesDue(told("left 8 5 1 0;left 7 5 0 0;right 8 5 1 0", ONLY_TWICES), false);
        // Both of two behind; and with the one ahead struck out, only the last of them.
        NinePence x = told("left 7 5 0 0;left 7 5 0 0;left 7 5 0 0;right 14 5 1 1", ONLY_TWICES);
        onesDue(x, false, slip(TWICE, 1, 0, -7), slip(TWICE, 2, 0, -7));
        x.strike(0);
        x.mend(2, 1, 7);
        onesDue(x, false, slip(TWICE, 1, 0, -7));
        due("judge of the first", x.judge(0, 0, 0), NONE);
        due("judge of its twin", x.judge(1, 0, 0), TWICE);
        x.strike(0);
        due("judge of the one that is left", x.judge(0, 0, 0), NONE);
        // The thirtieth, whose twin is the first.
        NinePence full = told("left 7 5 0 0", ONLY_TWICES);
        for (int i = 1; i < 29; i++) {
            Check.done(full, (i % 2 == 0 ? "left " : "right ") + (100 + (i - 1) / 2) + " 0 0 0");
        }
        Check.done(full, "left 7 5 0 0");
        due("count(0)", full.count(0), 30);
        due("out(-1)", full.out(-1), LIFT + 14);
        due("judge of the thirtieth", full.judge(29, 0, 0), TWICE);
        full.mend(1, 1, 107);
        onesDue(full, false, slip(TWICE, 29, 0, -7));
    }

    private void weights() {
        edges.of("WEIGHT of these: ODDS of the ENTRY's HAND for the KIND, FIGURE: times READ X Y.");
        String[] books = {"left 21 0 3 0;right 12 0 0 0", "left 5 0 3 0;right 3 0 0 0", "left 10 0 3 0;right 1 0 0 0",
            "left 4 0 3 0;left 4 1 0 0", "left 7 0 0 0;left 7 0 3 0;right 7 0 0 0"};
        int[] places = {0, 0, 0, 0, 1};
        for (int kind = 0; kind < 5; kind++) {
            for (int odds : new int[] {0, 1, 50, 99}) {
                NinePence x = told(books[kind], NO_HAND_0, "missed 0;carry 0;hand 3 " + kind + " " + odds);
                for (int read : new int[] {1, 99, 0}) {
                    Check.done(x, "read 3 5 " + read);
                    int weight = kind == FIGURE ? odds * read : odds;
                    due("one(-1, 0, false), odds " + odds, x.one(-1, 0, false), weight > 0 ? 1 : 0);
                    due("kind", x.one(0, 0, false), weight > 0 ? kind : NONE);
                    due("place", x.one(0, 1, false), weight > 0 ? places[kind] : NONE);
                    due("weight, odds " + odds + ", READ " + read, x.one(0, 4, false), weight > 0 ? weight : NONE);
                }
            }
        }
        // What one hand learned does not weigh for another.
        NinePence y = told("left 21 0 2 0;right 12 0 1 0;missed 0");
        due("learn(2, 0)", y.learn(2, 0), 2);
        onesDue(y, false, slip(TURN, 0, 12, -9, 2), slip(TURN, 1, 21, -9, 1));
    }

    private void missed() {
        edges.of("5 MISSED: an ENTRY more on the SIDE that has less (PLACE: the SIDE; SHOULD: as much as OUT without sign"
            + " (none, if that is above 999999)), with WEIGHT MISSED;");
        String none = NO_HAND_0 + ";carry 0";
        for (int out : new int[] {1, 2, 10, 999999}) {
            onesDue(told("left " + out + " 0 0 0", none), false, slip(MISSED, 1, out, -out, 1));
            onesDue(told("right " + out + " 0 0 0;missed 99", none), false, slip(MISSED, 0, out, out, 99));
        }
        onesDue(told("left 999999 0 0 0;left 1 0 0 0", none), false);
        onesDue(told("right 999999 0 0 0;right 1 0 0 0", none), false);
        onesDue(told("right 999999 0 0 0;right 999999 0 0 0;left 999999 0 0 0", none), false, slip(MISSED, 0, 999999, 999999, 1));
        onesDue(told("left 7 0 0 0;right 7 0 0 0", none), false);
        onesDue(told("left 7 0 0 0;missed 0", none), false);
        onesDue(new NinePence(), false);
        NinePence greatest = BookEdges.bookOf(30, "left", 999999);
        due("ofKind(5) of thirty", greatest.ofKind(MISSED), 0);
    }

    private void missedOnlySingle() {
        edges.of("only as a single one.");
        // Out is 7: missed 99 would weigh in any pair; there is none.
        NinePence x = told("left 7 0 0 0;missed 99", NO_HAND_0);
        due("ofKind(5)", x.ofKind(MISSED), 1);
        due("two(0)", x.two(0), 0);
        due("two(1)", x.two(1), 0);
        due("hide(0)", x.hide(0), 0);
        due("pair(false, 0)", x.pair(false, 0), NONE);
        // Out is 10: missed by 10 left would hide behind a carry of 10 more, were it one of the pair.
        NinePence y = told("right 10 0 0 0;missed 99", NO_HAND_0);
        onesDue(y, false, slip(MISSED, 0, 10, 10, 99), slip(CARRY, 0, 1, 10, 1));
        due("two(0)", y.two(0), 0);
        due("hide(0)", y.hide(0), 0);
        due("pair(true, 0)", y.pair(true, 0), NONE);
    }

    private void carries() {
        edges.of("6 CARRY: a PAGE's figures were added with a one too many or too few carried to the k-th column (k 1 .. 5):"
            + " CHANGE 10 to the k or less that,");
        int ten = 10;
        for (int k = 1; k <= 5; k++, ten *= 10) {
            onesDue(told("left " + ten + " 0 0 3;missed 0", NO_HAND_0), false, slip(CARRY, 3, k, -ten, 1));
            onesDue(told("right " + ten + " 0 0 3;missed 0", NO_HAND_0), false, slip(CARRY, 3, k, ten, 1));
            onesDue(told("left " + (ten + 1) + " 0 0 3;missed 0", NO_HAND_0), false);
            onesDue(told("left " + (ten - 1) + " 0 0 3;missed 0", NO_HAND_0), false);
            onesDue(told("left " + 2 * ten + " 0 0 3;missed 0", NO_HAND_0), false);
        }
        // No carry into the pence, and none into a sixth column.
        onesDue(told("left 1 0 0 3;missed 0", NO_HAND_0), false);
        onesDue(told("right 1 0 0 3;missed 0", NO_HAND_0), false);
        onesDue(told("left 999999 0 0 3;left 1 0 0 3;missed 0", NO_HAND_0), false);
        onesDue(told("right 999999 0 0 3;right 1 0 0 3;missed 0", NO_HAND_0), false);
    }

    private void carryPages() {
        edges.of("on a PAGE that has an ENTRY");
        NinePence x = told("left 10 0 0 5;missed 0", NO_HAND_0);
        onesDue(x, false, slip(CARRY, 5, 1, -10));
        for (int page = 0; page < 5; page++) {
            Check.done(x, "left 3 0 0 " + page + ";right 3 0 0 " + page);
        }
        onesDue(x, false, slip(CARRY, 0, 1, -10), slip(CARRY, 1, 1, -10), slip(CARRY, 2, 1, -10), slip(CARRY, 3, 1, -10),
            slip(CARRY, 4, 1, -10), slip(CARRY, 5, 1, -10));
        // Struck out one by one: a page has an entry until its last one goes.
        x.strike(2);
        x.strike(2);
        x.strike(1);
        onesDue(x, false);
        x.mend(0, 0, 13);
        due("out(-1)", x.out(-1), LIFT + 10);
        onesDue(x, false, slip(CARRY, 1, 1, -10), slip(CARRY, 2, 1, -10), slip(CARRY, 3, 1, -10), slip(CARRY, 4, 1, -10),
            slip(CARRY, 5, 1, -10));
        // A due does not make a page have an entry.
        onesDue(told("left 10 0 0 5;missed 0;page 0 left 0", NO_HAND_0), false, slip(CARRY, 5, 1, -10));
    }

    private void carryPageOut() {
        edges.of("(that PAGE's OUT is otherwise by it, too),");
        NinePence x = told("left 110 0 0 0;right 10 0 0 5;missed 0", NO_HAND_0);
        onesDue(x, true, slip(CARRY, 0, 2, -100), slip(CARRY, 5, 2, -100));
        Check.done(x, "page 0 left 110");
        onesDue(x, true, slip(CARRY, 5, 2, -100));
        Check.done(x, "page 0 left 10");
        onesDue(x, true, slip(CARRY, 0, 2, -100));
        Check.done(x, "page 5 right 110");
        onesDue(x, true);
        Check.done(x, "page 0 left 110");
        onesDue(x, true, slip(CARRY, 5, 2, -100));
        // out and off tell what stands, not what a carry would make of it.
        due("out(5)", x.out(5), LIFT - 10);
        due("off(5)", x.off(5), LIFT + 100);
    }

    private void carryWeight() {
        edges.of("WEIGHT CARRY (SHOULD: k).");
        for (int weight : new int[] {1, 2, 99}) {
            onesDue(told("left 1000 0 0 1;missed 0;carry " + weight, NO_HAND_0), false, slip(CARRY, 1, 3, -1000, weight));
        }
        NinePence x = told("left 1000 0 0 1;missed 0;carry 0", NO_HAND_0);
        onesDue(x, false);
        due("two(0)", x.two(0), 0);
        due("hide(0)", x.hide(0), 0);
    }

    private void order() {
        edges.of("They come by KINDS, PLACES, then by SHOULD (CARRY: by k, less 10 to the k first).");
        // 1010 and 1001 turn into each other, 101 and 1010 are a nought apart.
        NinePence x = told("left 21 0 0 0;right 12 0 0 2;left 19 0 0 1;right 10 0 0 1;read 0 9 1;read 9 0 1;hand 1 2 0",
            "left 10 0 0 2;right 1 0 0 0;right 9 0 0 3;right 9 0 0 3;left 9 0 1 5;right 19 0 1 3");
        due("out(-1)", x.out(-1), LIFT - 1);
        Check.done(x, "left 10 2 1 4");
        due("out(-1)", x.out(-1), LIFT + 9);
        onesDue(x, false, slip(TURN, 0, 12, -9), slip(TURN, 1, 21, -9), slip(FIGURE, 2, 10, -9), slip(FIGURE, 3, 19, -9),
            slip(NOUGHT, 4, 1, -9), slip(NOUGHT, 5, 10, -9), slip(MISSED, 1, 9, -9));
        // Of one kind at one place, by what should stand: seen by the first of pairs that are alike likely.
        NinePence y = told("left 20 0 0 0;right 20 0 0 0", ONLY_NOUGHTS);
        due("hide(0)", y.hide(0), 2);
        due("what should stand first", y.pair(true, 2), 2);
        NinePence z = told("left 132 0 0 0;right 132 0 0 0", ONLY_TURNS);
        due("hide(0)", z.hide(0), 2);
        due("what should stand first", z.pair(true, 2), 123);
        NinePence w = told("left 545 0 0 0;right 545 0 0 0;read 3 5 1;read 9 4 1;read 9 5 1;read 0 5 1", ONLY_FIGURES);
        due("hide(0)", w.hide(0), 6);
        due("what should stand first", w.pair(true, 2), 345);
        NinePence v = told("left 5 0 0 0;right 5 0 0 5", NO_HAND_0);
        due("hide(0) of two pages", v.hide(0), 10);
        due("the column first", v.pair(true, 2) * 10 + v.pair(true, 5), 11);
    }

    private void weightAboveNought() {
        edges.of("Only such of WEIGHT above 0 count.");
        NinePence x = ninety();
        onesDue(x, false, slip(TURN, 0, 120, -90), slip(TURN, 1, 210, -90), slip(FIGURE, 2, 100, -90), slip(NOUGHT, 3, 10, -90),
            slip(NOUGHT, 4, 100, -90), slip(SIDE, 5, 45, -90), slip(TWICE, 7, 0, -90), slip(MISSED, 1, 90, -90));
        Check.done(x, "hand 0 0 0");
        onesDue(x, false, slip(TURN, 1), slip(FIGURE, 2), slip(NOUGHT, 3), slip(NOUGHT, 4), slip(SIDE, 5), slip(TWICE, 7), slip(MISSED, 1));
        Check.done(x, "read 0 9 0");
        onesDue(x, false, slip(TURN, 1), slip(NOUGHT, 3), slip(NOUGHT, 4), slip(SIDE, 5), slip(TWICE, 7), slip(MISSED, 1));
        Check.done(x, "hand 1 3 0;hand 3 4 0");
        onesDue(x, false, slip(TURN, 1), slip(NOUGHT, 3), slip(NOUGHT, 4), slip(MISSED, 1));
        Check.done(x, "missed 0;hand 0 2 0;hand 3 2 0");
        onesDue(x, false, slip(TURN, 1, 210, -90, 3));
        Check.done(x, "hand 1 0 0");
        onesDue(x, false);
        due("learn(1, 0)", x.learn(1, 0), 1);
        onesDue(x, false, slip(TURN, 1, 210, -90, 1));
    }

    private void ones() {
        edges.of("ONE: SLIPS that make OUT of all 0 alone (none, if it is 0).");
        // A change too small by one, just so, and too great by one.
        for (int right = 11; right <= 13; right++) {
            NinePence x = told("left 21 0 0 0;right " + right + " 0 1 0;missed 0;carry 0", NO_HAND_1);
            onesDue(x, false, right == 12 ? new int[][] {slip(TURN, 0, 12, -9, 1)} : new int[0][]);
        }
        // Of all, not of a page: each page is out by 9, all are even.
        onesDue(told("left 21 0 0 0;right 12 0 0 0;right 21 0 0 1;left 12 0 0 1"), false);
        onesDue(told("left 5 0 0 0;right 5 0 0 0"), false);
        onesDue(new NinePence(), false);
        // The greatest out that one slip explains: a side of 999999.
        onesDue(told("left 999999 0 0 0;left 999999 0 0 1;left 999999 0 0 2;right 999999 0 1 0", ONLY_SIDES), false,
            slip(SIDE, 0, 999999, -1999998), slip(SIDE, 1, 999999, -1999998), slip(SIDE, 2, 999999, -1999998));
        NinePence struck = told("left 21 0 0 0;right 12 0 0 0;missed 0");
        struck.strike(1);
        onesDue(struck, false);
        struck.strike(0);
        onesDue(struck, false);
    }

    private void narrow() {
        edges.of("NARROW: of these, those behind which no PAGE with a DUE is OFF");
        NinePence x = told("left 21 0 0 0;right 12 0 0 5;missed 0");
        onesDue(x, true, slip(TURN, 0, 12, -9), slip(TURN, 1, 21, -9));
        // Off by one too few, just so, and by one too many.
        for (int due = 11; due <= 13; due++) {
            Check.done(x, "page 0 left " + due);
            onesDue(x, true, due == 12 ? new int[][] {slip(TURN, 0, 12, -9)} : new int[0][]);
            onesDue(x, false, slip(TURN, 0, 12, -9), slip(TURN, 1, 21, -9));
        }
        for (int due = 20; due <= 22; due++) {
            Check.done(x, "page 0 left " + due);
            onesDue(x, true, due == 21 ? new int[][] {slip(TURN, 1, 21, -9)} : new int[0][]);
        }
        // A due on a page without an entry: 0 is not off, 1 is.
        Check.done(x, "page 0 free;page 3 left 0");
        onesDue(x, true, slip(TURN, 0, 12, -9), slip(TURN, 1, 21, -9));
        Check.done(x, "page 3 right 1");
        onesDue(x, true);
        Check.done(x, "page 3 right 0;page 5 right 21");
        onesDue(x, true, slip(TURN, 1, 21, -9));
        // A due of both: each slip leaves the other page off, or a third.
        Check.done(x, "page 0 left 12");
        onesDue(x, true);
        // All six pages may have one, if the slip is at an entry.
        Check.done(x, "page 0 left 21;page 1 left 0;page 2 left 0;page 4 left 0");
        onesDue(x, true, slip(TURN, 1, 21, -9));
        Check.done(x, "page 4 left 1");
        onesDue(x, true);
        // With out 0 there is none, though no page is off.
        onesDue(told("left 5 0 0 0;right 5 0 0 1;page 0 left 5"), true);
        // Dues may be told ahead of entries.
        onesDue(told("page 2 left 10;missed 0", "left 100 0 0 2;right 10 0 1 3;hand 1 2 0"), true, slip(NOUGHT, 0, 10, -90));
    }

    private void narrowMissed() {
        edges.of("(MISSED: as if on a PAGE without DUE; none, if all six have one).");
        NinePence x = told("left 7 0 0 0", NO_HAND_0);
        onesDue(x, true, slip(MISSED, 1, 7, -7));
        for (int page = 0; page < 5; page++) {
            Check.done(x, "page " + page + " left " + (page == 0 ? 7 : 0));
            onesDue(x, true, slip(MISSED, 1, 7, -7));
        }
        Check.done(x, "page 5 left 0");
        onesDue(x, true);
        onesDue(x, false, slip(MISSED, 1, 7, -7));
        // None though the sixth would be even with it; and any one that is free will do.
        Check.done(x, "page 5 left 7");
        onesDue(x, true);
        for (int page = 0; page < 6; page++) {
            Check.done(x, "page 5 left 0;page " + page + " free");
            onesDue(x, true, slip(MISSED, 1, 7, -7));
            Check.done(x, "page " + page + " left " + (page == 0 ? 7 : 0));
        }
        // A page that is off as it stands stays off: it is not there that the entry was missed.
        Check.done(x, "page 0 left 0;page 3 free");
        onesDue(x, true);
    }

    private void promiseOne() {
        edges.of("ONE (NARROW, or not): how many (i -1), or of the i-th the KIND (what 0), PLACE (1), SHOULD (2),"
            + " CHANGE and 50000000 (3), WEIGHT (4); NONE: there are not so many. OUTSIDE: i below -1, what.");
        NinePence x = told("left 21 0 0 0;right 12 0 0 5;missed 6;page 5 right 12");
        for (int what = 0; what < 5; what++) {
            due("one(-1, " + what + ", false)", x.one(-1, what, false), 3);
            due("one(-1, " + what + ", true)", x.one(-1, what, true), 2);
            due("one(3, " + what + ", false)", x.one(3, what, false), NONE);
            due("one(2, " + what + ", true)", x.one(2, what, true), NONE);
            due("one(MOST, " + what + ", true)", x.one(MOST, what, true), NONE);
            due("one(-1, " + what + ", ..) of none", new NinePence().one(-1, what, false), 0);
            due("one(0, " + what + ", ..) of none", new NinePence().one(0, what, true), NONE);
        }
        int[] last = {MISSED, 1, 9, LIFT - 9, 6};
        for (int what = 0; what < 5; what++) {
            due("one(2, " + what + ", false)", x.one(2, what, false), last[what]);
            due("one(1, " + what + ", true)", x.one(1, what, true), last[what]);
        }
        for (int i : new int[] {LEAST, -3, -2}) {
            for (int what = -1; what < 6; what++) {
                due("one(" + i + ", " + what + ", false)", x.one(i, what, false), OUTSIDE);
                due("one(" + i + ", " + what + ", true)", x.one(i, what, true), OUTSIDE);
            }
        }
        for (int what : new int[] {LEAST, -1, 5, MOST}) {
            for (int i : new int[] {-1, 0, 2, 3, MOST}) {
                due("one(" + i + ", " + what + ", false)", x.one(i, what, false), OUTSIDE);
                due("one(" + i + ", " + what + ", true)", x.one(i, what, true), OUTSIDE);
            }
        }
    }

    private void promiseOfKind() {
        edges.of("How many of ONE are of a KIND (0 .. 6). UNKNOWN.");
        NinePence x = ninety();
        int[] many = {2, 1, 2, 1, 1, 1, 0};
        for (int kind = 0; kind < 7; kind++) {
            due("ofKind(" + kind + ")", x.ofKind(kind), many[kind]);
            due("ofKind(" + kind + ") of none", new NinePence().ofKind(kind), 0);
        }
        Check.done(x, "page 0 left 1;page 1 left 1");
        due("one(-1, 0, true)", x.one(-1, 0, true), 0);
        due("ofKind(0), narrow or not", x.ofKind(0), 2);
        NinePence y = told("left 10 0 0 0;right 1 0 0 5;left 1 1 0 5;carry 9", NO_HAND_0);
        due("ofKind(6)", y.ofKind(CARRY), 2);
        due("ofKind(5)", y.ofKind(MISSED), 1);
        for (int kind : new int[] {LEAST, -1, 7, 8, MOST}) {
            due("ofKind(" + kind + ")", x.ofKind(kind), UNKNOWN);
        }
    }
}
