/** Promises 13 to 23: slips, single and in pairs. Each due answer was worked out by hand. */
public final class SlipTest {
    private static final int LIFT = 50000000;
    private static final int LEAST = Integer.MIN_VALUE, MOST = Integer.MAX_VALUE;
    private static final int TURN = 0, FIGURE = 1, NOUGHT = 2, SIDE = 3, TWICE = 4, MISSED = 5, CARRY = 6;
    private static final Check CHECK = new Check("SlipTest");

    public static void main(String[] args) {
        signs();
        oneOfEachKind();
        oneTurns();
        oneFigures();
        oneNoughts();
        oneSidesAndTwices();
        oneMissed();
        oneCarries();
        oneOutside();
        narrow();
        narrowCarries();
        ofKind();
        twoAtEntries();
        twoAtUnlikePlaces();
        hideInOrder();
        hideAtPages();
        pairLikeliest();
        chance();
        chanceWithPairs();
        whose();
        lookAndMean();
        lookOutside();
        judge();
        judgeOutside();
        answersFollowChanges();
        CHECK.finish();
    }

    private static void due(String call, long got, long want) {
        CHECK.due(call, got, want);
    }

    private static void signsDue(int want, String text) {
        due("13 signs of " + text, Check.told(text).signs(), want);
    }

    private static void manyDue(NinePence x, boolean narrow, int want) {
        due("14 one(-1, 0, " + narrow + ")", x.one(-1, 0, narrow), want);
        due("14 no more than these", x.one(want, 0, narrow), NinePence.NONE);
        due("14 the last is one", x.one(want - 1, 3, narrow) > 0 ? 1 : 0, want > 0 ? 1 : 0);
    }

    private static void oneDue(NinePence x, boolean narrow, int i, int... want) {
        for (int what = 0; what < want.length; what++) {
            due("14 one(" + i + ", " + what + ", " + narrow + ")", x.one(i, what, narrow), want[what] + (what == 3 ? LIFT : 0));
        }
    }

    private static void pairDue(NinePence x, boolean hides, int... want) {
        for (int what = 0; what < 6; what++) {
            due("18 pair(" + hides + ", " + what + ")", x.pair(hides, what), want[what]);
        }
    }

    // 13
    private static void signs() {
        due("13 signs of nothing", new NinePence().signs(), NinePence.NOT);
        due("13 signs of 0", Check.told("left 9 0 0 0;right 9 0 0 0").signs(), NinePence.NOT);
        signsDue(5, "left 9 0 0 0");
        signsDue(1, "left 18 0 0 0;left 27 0 0 0;right 36 0 0 0");
        signsDue(0, "left 4 0 0 0;left 4 0 0 0;right 1 0 0 0");
        // Half of out on the greater side, on the lesser one, of an odd out.
        signsDue(2, "right 3 0 0 0;right 3 0 0 0");
        signsDue(2, "left 3 0 0 0;left 3 0 0 0");
        signsDue(0, "left 3 0 0 0;right 9 0 0 0");
        signsDue(0, "left 3 0 0 0;left 8 0 0 0;right 4 0 0 0");
        signsDue(1, "left 4 0 0 0;left 14 0 0 0;right 9 0 0 0");
        signsDue(2, "left 4 0 0 3;left 4 0 0 5");
        // Out itself on the greater side, on the lesser one.
        signsDue(4, "right 6 0 0 0;left 6 0 0 0;right 6 0 0 0");
        signsDue(0, "left 6 0 0 0;right 12 0 0 0");
        signsDue(4, "left 7 0 0 0");
        // Tens.
        signsDue(8, "left 11 0 0 0;right 1 0 0 0");
        signsDue(8, "left 1 0 0 0;right 101 0 0 0");
        signsDue(8, "left 1001 0 0 0;right 1 0 0 0");
        signsDue(8, "left 10001 0 0 0;right 1 0 0 0");
        signsDue(8, "left 100001 0 0 0;right 1 0 0 0");
        signsDue(0, "left 2 0 0 0;right 1 0 0 0");
        signsDue(0, "left 999999 0 0 0;left 2 0 0 0;right 1 0 0 0");
        signsDue(0, "left 21 0 0 0;right 1 0 0 0");
        // Nine times one, nine tenths of one, of either side, and just so.
        signsDue(17, "left 7 0 0 0;left 3 0 0 0;right 1 0 0 0");
        signsDue(17, "left 3 0 0 0;right 30 0 0 0");
        signsDue(17, "left 40 0 0 0;right 3 0 0 0;right 1 0 0 0");
        signsDue(17, "left 33 0 0 0;left 30 0 0 0;left 13 0 0 0;right 40 0 0 0");
        signsDue(0, "left 5 0 0 0;right 1 0 0 0");
        signsDue(1 + 2 + 4, "left 18 0 0 0;left 9 0 0 0;right 9 0 0 0");
    }

    /** A book 90 too high on the left, which a slip of each kind below carry would explain. */
    private static NinePence ninety() {
        return Check.told("left 210 0 0 0;right 120 1 1 1;left 190 0 2 2;left 100 0 3 0;right 10 0 0 1;left 45 0 1 3",
            "left 90 3 2 4;left 90 3 3 4;right 505 2 0 5;second 0;missed 11;read 0 9 6",
            "hand 0 0 7;hand 1 0 3;hand 2 1 5;hand 3 2 4;hand 0 2 2;hand 1 3 9;hand 3 4 8");
    }

    // 14
    private static void oneOfEachKind() {
        NinePence x = ninety();
        due("14 out", x.out(-1), LIFT + 90);
        manyDue(x, false, 8);
        oneDue(x, false, 0, TURN, 0, 120, -90, 7);
        oneDue(x, false, 1, TURN, 1, 210, -90, 3);
        oneDue(x, false, 2, FIGURE, 2, 100, -90, 30);
        oneDue(x, false, 3, NOUGHT, 3, 10, -90, 4);
        oneDue(x, false, 4, NOUGHT, 4, 100, -90, 2);
        oneDue(x, false, 5, SIDE, 5, 45, -90, 9);
        oneDue(x, false, 6, TWICE, 7, 0, -90, 8);
        oneDue(x, false, 7, MISSED, 1, 90, -90, 11);
        for (int what = 0; what < 5; what++) {
            due("14 one(8, " + what + ", false)", x.one(8, what, false), NinePence.NONE);
            due("14 one(MOST, " + what + ", false)", x.one(MOST, what, false), NinePence.NONE);
        }
        // No page has a due: the narrow ones are all.
        manyDue(x, true, 8);
        oneDue(x, true, 7, MISSED, 1, 90, -90, 11);
    }

    private static void oneTurns() {
        NinePence x = Check.told("left 21 0 0 0;right 12 0 0 0");
        manyDue(x, false, 3);
        oneDue(x, false, 0, TURN, 0, 12, -9, 1);
        oneDue(x, false, 1, TURN, 1, 21, -9, 1);
        oneDue(x, false, 2, MISSED, 1, 9, -9, 1);
        // Not at 0 ahead: 10 is no turn of 01; but at 0 inside: 105 and 150.
        manyDue(Check.told("left 105 0 0 0;right 60 0 0 0"), false, 1);
        oneDue(Check.told("left 105 0 0 0;right 60 0 0 0"), false, 0, MISSED, 1, 45, -45, 1);
        manyDue(Check.told("left 150 0 0 0;right 105 0 0 0;missed 0"), false, 2);
        oneDue(Check.told("left 150 0 0 0;right 105 0 0 0;missed 0"), false, 0, TURN, 0, 105, -45, 1);
        // The first two of six figures, and the last two.
        oneDue(Check.told("left 654321 0 0 0;right 564321 0 0 0"), false, 0, TURN, 0, 564321, -90000, 1);
        oneDue(Check.told("left 123456 0 0 0;right 123465 0 0 0"), false, 0, TURN, 0, 123465, 9, 1);
        // Two figures that are not side by side are no turn.
        manyDue(Check.told("left 321 0 0 0;right 123 0 0 0;missed 0"), false, 0);
        // Odds of 0: it does not count.
        manyDue(Check.told("left 21 0 0 0;right 12 0 1 0;hand 0 0 0"), false, 2);
    }

    private static void oneFigures() {
        NinePence x = Check.told("read 7 1 4;left 100 0 0 0;right 700 0 0 0;hand 0 1 5");
        manyDue(x, false, 2);
        oneDue(x, false, 0, FIGURE, 0, 700, 600, 20);
        oneDue(x, false, 1, MISSED, 0, 600, 600, 1);
        NinePence y = Check.told("read 1 7 99;left 100 0 0 0;right 700 0 0 0;hand 0 1 99");
        manyDue(y, false, 2);
        oneDue(y, false, 0, FIGURE, 1, 100, 600, 9801);
        // Not at 0 ahead, and not without READ.
        manyDue(Check.told("read 0 5 3;left 50 0 0 0"), false, 1);
        manyDue(Check.told("read 0 5 3;left 150 0 0 0;right 100 0 0 0"), false, 2);
        manyDue(Check.told("read 0 5 3;left 5 0 0 0"), false, 1);
        manyDue(Check.told("read 5 0 3;left 150 0 0 0;right 100 0 0 0"), false, 2);
        oneDue(Check.told("read 5 0 3;left 150 0 0 0;right 100 0 0 0"), false, 0, FIGURE, 1, 150, -50, 3);
        manyDue(Check.told("read 0 5 0;left 150 0 0 0;right 100 0 0 0"), false, 1);
        manyDue(Check.told("read 0 5 3;left 150 0 0 0;right 100 0 0 0;hand 0 1 0"), false, 1);
        oneDue(Check.told("read 3 5 2;left 5 0 0 0;right 3 0 0 0"), false, 0, FIGURE, 0, 3, -2, 2);
        oneDue(Check.told("read 8 3 2;left 312345 0 0 0;right 812345 0 0 0"), false, 0, FIGURE, 0, 812345, 500000, 2);
        manyDue(Check.told("read 0 5 3;left 57 0 0 0;right 7 0 0 0"), false, 1);
        // Upwards too: by one, to 9, at the last figure and at the first; each way once.
        oneDue(Check.told("read 2 1 5;left 31 0 0 0;right 32 0 0 0"), false, 0, FIGURE, 0, 32, 1, 5);
        oneDue(Check.told("read 9 8 5;left 38 0 0 0;right 39 0 0 0"), false, 0, FIGURE, 0, 39, 1, 5);
        oneDue(Check.told("read 9 0 5;left 30 0 0 0;right 39 0 0 0"), false, 0, FIGURE, 0, 39, 9, 5);
        manyDue(Check.told("read 4 5 5;left 35 0 0 0;right 34 0 0 0;missed 0"), false, 1);
        manyDue(Check.told("read 2 3 5;left 35 0 0 0;right 25 0 0 0;missed 0;carry 0"), false, 1);
        manyDue(Check.told("read 6 5 5;left 35 0 0 0;right 36 0 0 0;missed 0"), false, 1);
        // A later text about the same figures takes the place of the earlier one.
        oneDue(Check.told("read 3 5 2;left 5 0 0 0;right 3 0 0 0", "read 3 5 9"), false, 0, FIGURE, 0, 3, -2, 9);
    }

    private static void oneNoughts() {
        NinePence x = Check.told("left 10 0 0 0;right 1 0 0 0;hand 0 2 6");
        manyDue(x, false, 3);
        oneDue(x, false, 0, NOUGHT, 0, 1, -9, 6);
        oneDue(x, false, 1, NOUGHT, 1, 10, -9, 6);
        oneDue(x, false, 2, MISSED, 1, 9, -9, 1);
        // Ten times 100000 is no sum, ten times 99999 is one.
        NinePence y = Check.told("left 100000 0 0 0;right 999999 0 0 0;right 1 0 0 0");
        manyDue(y, false, 1);
        oneDue(y, false, 0, MISSED, 0, 900000, 900000, 1);
        NinePence z = Check.told("left 99999 0 0 0;right 999990 0 0 0");
        manyDue(z, false, 3);
        oneDue(z, false, 0, NOUGHT, 0, 999990, 899991, 1);
        oneDue(z, false, 1, NOUGHT, 1, 99999, 899991, 1);
        // A tenth only of what ends with 0.
        manyDue(Check.told("left 105 0 0 0;right 10 0 0 0;missed 0"), false, 0);
    }

    private static void oneSidesAndTwices() {
        NinePence x = Check.told("left 30 0 0 0;left 50 0 0 0;right 20 0 0 0;hand 0 3 4");
        manyDue(x, false, 2);
        oneDue(x, false, 0, SIDE, 0, 30, -60, 4);
        NinePence y = Check.told("right 30 0 0 0;right 50 0 0 0;left 20 0 0 0;hand 0 3 4");
        oneDue(y, false, 0, SIDE, 0, 30, 60, 4);
        // The same side, sum and account ahead; hand and page do not matter.
        NinePence t = Check.told("left 50 1 0 0;left 50 1 1 1;left 50 2 0 0;right 100 1 0 0;hand 1 4 3");
        manyDue(t, false, 2);
        oneDue(t, false, 0, TWICE, 1, 0, -50, 3);
        NinePence three = Check.told("right 50 1 0 0;right 50 1 1 1;right 50 1 2 2;left 100 1 0 0");
        manyDue(three, false, 3);
        oneDue(three, false, 0, TWICE, 1, 0, 50, 1);
        oneDue(three, false, 1, TWICE, 2, 0, 50, 1);
        oneDue(three, false, 2, MISSED, 0, 50, 50, 1);
        manyDue(Check.told("left 50 1 0 0;right 50 1 0 0;left 50 2 0 0;missed 0"), false, 0);
        manyDue(Check.told("left 50 1 0 0;left 50 1 0 0;right 50 1 0 0;hand 0 4 0;missed 0"), false, 0);
    }

    private static void oneMissed() {
        NinePence x = Check.told("left 999999 0 0 0;missed 99");
        manyDue(x, false, 1);
        oneDue(x, false, 0, MISSED, 1, 999999, -999999, 99);
        NinePence y = Check.told("right 7 0 0 0");
        oneDue(y, false, 0, MISSED, 0, 7, 7, 1);
        oneDue(Check.told("left 2 0 0 0;right 1 0 0 0"), false, 0, MISSED, 1, 1, -1, 1);
        oneDue(Check.told("left 1 0 0 0;right 2 0 0 0"), false, 0, MISSED, 0, 1, 1, 1);
        manyDue(Check.told("left 999999 0 0 0;left 2 0 0 0;right 1 0 0 0"), false, 0);
        manyDue(Check.told("left 7 0 0 0;missed 0"), false, 0);
        manyDue(Check.told("left 7 0 0 0;right 7 0 0 0"), false, 0);
        manyDue(new NinePence(), false, 0);
    }

    private static void oneCarries() {
        NinePence x = Check.told("left 110 0 0 1;right 10 0 0 4;carry 6");
        manyDue(x, false, 3);
        oneDue(x, false, 0, MISSED, 1, 100, -100, 1);
        oneDue(x, false, 1, CARRY, 1, 2, -100, 6);
        oneDue(x, false, 2, CARRY, 4, 2, -100, 6);
        NinePence y = Check.told("left 10 0 0 1;right 110 0 0 4");
        manyDue(y, false, 3);
        oneDue(y, false, 0, MISSED, 0, 100, 100, 1);
        oneDue(y, false, 1, CARRY, 1, 2, 100, 1);
        oneDue(y, false, 2, CARRY, 4, 2, 100, 1);
        manyDue(Check.told("left 110 0 0 1;right 10 0 0 4;carry 0"), false, 1);
        // From the first column to the fifth, not to the units and not to a sixth.
        oneDue(Check.told("left 100001 0 0 5;right 1 0 0 5;missed 0"), false, 0, CARRY, 5, 5, -100000, 1);
        oneDue(Check.told("left 11 0 0 0;right 1 0 0 0;missed 0"), false, 0, CARRY, 0, 1, -10, 1);
        manyDue(Check.told("left 2 0 0 0;right 1 0 0 0;missed 0"), false, 0);
        manyDue(Check.told("left 999999 0 0 0;left 2 0 0 0;right 1 0 0 0;missed 0"), false, 0);
    }

    private static void oneOutside() {
        NinePence x = ninety();
        for (int i : new int[] {-2, LEAST}) {
            due("14 one(" + i + ", 0, false)", x.one(i, 0, false), NinePence.OUTSIDE);
            due("14 one(" + i + ", 0, true)", x.one(i, 0, true), NinePence.OUTSIDE);
        }
        for (int what : new int[] {-1, 5, LEAST, MOST}) {
            due("14 one(0, " + what + ", false)", x.one(0, what, false), NinePence.OUTSIDE);
            due("14 one(-1, " + what + ", true)", x.one(-1, what, true), NinePence.OUTSIDE);
            due("14 one(99, " + what + ", true)", x.one(99, what, true), NinePence.OUTSIDE);
        }
    }

    private static void tell(NinePence x, String text) {
        Check.tell(x, text);
        due("5 book() of " + text, x.book() > 0 ? 1 : 0, 1);
    }

    // The pages of ninety() stand at 310, -130, 190, 45, 180, -505.
    private static void narrow() {
        NinePence x = ninety();
        tell(x, "page 0 left 220");
        manyDue(x, true, 2);
        oneDue(x, true, 0, TURN, 0, 120, -90, 7);
        oneDue(x, true, 1, NOUGHT, 3, 10, -90, 4);
        manyDue(x, false, 8);
        tell(x, "page 0 left 310");
        manyDue(x, true, 6);
        oneDue(x, true, 0, TURN, 1, 210, -90, 3);
        oneDue(x, true, 1, FIGURE, 2, 100, -90, 30);
        oneDue(x, true, 5, MISSED, 1, 90, -90, 11);
        tell(x, "page 1 right 220");
        manyDue(x, true, 2);
        oneDue(x, true, 0, TURN, 1, 210, -90, 3);
        oneDue(x, true, 1, NOUGHT, 4, 100, -90, 2);
        tell(x, "page 2 left 100");
        manyDue(x, true, 0);
        tell(x, "page 1 right 130;page 2 left 190;page 3 left 45;page 4 left 180");
        manyDue(x, true, 1);
        oneDue(x, true, 0, MISSED, 1, 90, -90, 11);
        tell(x, "page 5 right 505");
        manyDue(x, true, 0);
        tell(x, "page 4 left 90");
        manyDue(x, true, 1);
        oneDue(x, true, 0, TWICE, 7, 0, -90, 8);
        tell(x, "page 0 free;page 1 free;page 2 free;page 3 free;page 4 free;page 5 free");
        manyDue(x, true, 8);
        // A page without an entry stands at 0, and a due of 0 is a due.
        NinePence y = Check.told("left 21 0 0 0;right 12 0 0 1;page 5 left 1");
        manyDue(y, true, 0);
        tell(y, "page 5 left 0");
        manyDue(y, true, 3);
        tell(y, "page 0 left 0;page 1 free");
        manyDue(y, true, 0);
    }

    private static void narrowCarries() {
        NinePence x = Check.told("left 110 0 0 1;right 10 0 0 4;page 1 left 10");
        manyDue(x, true, 1);
        oneDue(x, true, 0, CARRY, 1, 2, -100, 1);
        tell(x, "page 1 free;page 4 right 110");
        manyDue(x, true, 1);
        oneDue(x, true, 0, CARRY, 4, 2, -100, 1);
        tell(x, "page 4 right 10");
        manyDue(x, true, 2);
        oneDue(x, true, 0, MISSED, 1, 100, -100, 1);
        oneDue(x, true, 1, CARRY, 1, 2, -100, 1);
    }

    // 15
    private static void ofKind() {
        NinePence x = ninety();
        int[] many = {2, 1, 2, 1, 1, 1, 0};
        for (int kind = 0; kind < 7; kind++) {
            due("15 ofKind(" + kind + ")", x.ofKind(kind), many[kind]);
        }
        for (int kind : new int[] {-1, 7, LEAST, MOST}) {
            due("15 ofKind(" + kind + ")", x.ofKind(kind), NinePence.UNKNOWN);
        }
        // Of all, not only of the narrow ones.
        tell(x, "page 0 left 220");
        due("15 ofKind(0) with a due", x.ofKind(0), 2);
        due("15 ofKind(4) with a due", x.ofKind(4), 1);
        NinePence y = Check.told("left 110 0 0 1;right 10 0 0 4");
        due("15 ofKind(6)", y.ofKind(6), 2);
        due("15 ofKind(5)", y.ofKind(5), 1);
        due("15 ofKind(0) of none", new NinePence().ofKind(0), 0);
    }

    /** Out is 18: any two of four turns, by 9 each, or two sides, 21 with 12 or 43 with 34. */
    private static NinePence eighteen() {
        return Check.told("left 21 0 0 0;left 43 0 1 0;right 12 0 2 0;right 34 0 3 0");
    }

    // 16
    private static void twoAtEntries() {
        NinePence x = eighteen();
        due("16 two(0)", x.two(0), 8);
        due("16 two(1)", x.two(1), 8);
        pairDue(x, false, TURN, 0, 12, TURN, 1, 34);
        tell(x, "hand 0 0 2;hand 1 0 3;hand 2 0 5;hand 3 0 7;hand 1 3 10");
        due("16 two(0)", x.two(0), 8);
        // 2 * 3 + 2 * 5 + 2 * 7 + 3 * 5 + 3 * 7 + 5 * 7 for the turns, 1 and 10 for the sides.
        due("16 two(1)", x.two(1), 6 + 10 + 14 + 15 + 21 + 35 + 1 + 10);
        pairDue(x, false, TURN, 2, 21, TURN, 3, 43);
        for (int what : new int[] {-1, 2, LEAST, MOST}) {
            due("16 two(" + what + ")", x.two(what), NinePence.OUTSIDE);
            due("17 hide(" + what + ")", x.hide(what), NinePence.OUTSIDE);
        }
        due("16 two(0) of nothing", new NinePence().two(0), 0);
        due("16 two(1) of nothing", new NinePence().two(1), 0);
        // Great weights: 9801 * 9801.
        NinePence y = Check.told("read 3 5 99;hand 0 1 99;left 15 0 0 0;left 25 0 0 0;right 36 0 0 0;missed 0;carry 0",
            "hand 0 0 0;hand 0 2 0;hand 0 3 0;hand 0 4 0");
        due("16 two(0) figures", y.two(0), 1);
        due("16 two(1) figures", y.two(1), 96059601L);
        pairDue(y, false, FIGURE, 0, 13, FIGURE, 1, 23);
    }

    private static void twoAtUnlikePlaces() {
        // 2143 has two turns of its own that together make 1234: they are at one entry.
        NinePence x = Check.told("left 2143 0 0 0;right 1234 0 0 0");
        due("16 two(0)", x.two(0), 2);
        pairDue(x, false, TURN, 0, 1243, TURN, 1, 1243);
        // Side and carry: out is 20, either 5 over and 10 less carried on any of two pages, or 10 on both.
        NinePence y = Check.told("left 5 0 0 0;left 25 0 0 1;right 10 0 0 1;hand 0 0 0;hand 0 2 0");
        due("16 two(0) with carry", y.two(0), 3);
        pairDue(y, false, SIDE, 0, 5, CARRY, 0, 1);
        // Missed is only a single one: 5 and 5 are 10, missed would be one of them.
        NinePence z = Check.told("left 7 0 0 0;left 1 0 0 0;carry 0;missed 9");
        due("16 two(0) without missed", z.two(0), 0);
        due("16 two(1) without missed", z.two(1), 0);
        pairDue(z, false, -1, -1, -1, -1, -1, -1);
    }

    // 17
    private static void hideInOrder() {
        NinePence x = Check.told("left 10 0 0 0;right 10 0 1 0");
        due("17 hide(0)", x.hide(0), 3);
        due("17 hide(1)", x.hide(1), 3);
        due("16 two(0) with out 0", x.two(0), 3);
        // Both noughts: what should stand less comes first.
        pairDue(x, true, NOUGHT, 0, 1, NOUGHT, 1, 1);
        pairDue(x, false, NOUGHT, 0, 1, NOUGHT, 1, 1);
        tell(x, "hand 0 2 2;hand 1 2 5");
        due("17 hide(0)", x.hide(0), 3);
        due("17 hide(1)", x.hide(1), 21);
        // Whatever out is.
        tell(x, "left 4 0 3 0;hand 3 0 0;hand 3 2 0;hand 3 3 0");
        due("17 hide(0) with out 4", x.hide(0), 3);
        due("17 hide(1) with out 4", x.hide(1), 21);
        due("16 two(0) with out 4", x.two(0), 0);
        due("17 hide(0) of nothing", new NinePence().hide(0), 0);
    }

    private static void hideAtPages() {
        NinePence x = Check.told("left 100 0 0 0;right 100 0 0 3");
        due("17 hide(0) at two pages", x.hide(0), 13);
        due("17 hide(1) at two pages", x.hide(1), 13);
        pairDue(x, true, NOUGHT, 0, 10, NOUGHT, 1, 10);
        tell(x, "carry 2");
        due("17 hide(1) with carry 2", x.hide(1), 3 + 40);
        pairDue(x, true, CARRY, 0, 1, CARRY, 3, 1);
        tell(x, "carry 0");
        due("17 hide(0) with carry 0", x.hide(0), 3);
        // One page: the two ways to carry wrongly there are at one place.
        due("17 hide(0) at one page", Check.told("left 100 0 0 3;right 100 0 0 3").hide(0), 3);
        // An entry and a page are unlike places, of whatever numbers.
        NinePence y = Check.told("left 5 0 0 0;right 5 0 0 0");
        due("17 hide(0) at entry and page", y.hide(0), 4);
        due("17 hide(1) at entry and page", y.hide(1), 4);
        pairDue(y, true, NOUGHT, 0, 50, NOUGHT, 1, 50);
        tell(y, "hand 0 2 0;carry 9");
        pairDue(y, true, SIDE, 0, 5, CARRY, 0, 1);
        due("17 hide(1) at entry and page", y.hide(1), 1 + 9 + 9);
    }

    // 18
    private static void pairLikeliest() {
        NinePence x = eighteen();
        tell(x, "hand 0 0 0;hand 1 0 2;hand 2 0 3;hand 3 0 3;hand 0 3 9");
        // Turns 1 with 2: 6, 1 with 3: 6, 2 with 3: 9; sides 0 with 2: 9, 1 with 3: 1.
        due("16 two(0)", x.two(0), 5);
        due("16 two(1)", x.two(1), 6 + 6 + 9 + 9 + 1);
        pairDue(x, false, TURN, 2, 21, TURN, 3, 43);
        tell(x, "hand 0 3 10");
        pairDue(x, false, SIDE, 0, 21, SIDE, 2, 12);
        tell(x, "hand 0 3 2;hand 2 0 1");
        // 2 with 1: 2, 2 with 3: 6, 1 with 3: 3; sides 2 and 1.
        pairDue(x, false, TURN, 1, 34, TURN, 3, 43);
        for (int what : new int[] {-1, 6, LEAST, MOST}) {
            due("18 pair(false, " + what + ")", x.pair(false, what), NinePence.OUTSIDE);
            due("18 pair(true, " + what + ")", x.pair(true, what), NinePence.OUTSIDE);
            due("18 pair(true, " + what + ") of nothing", new NinePence().pair(true, what), NinePence.OUTSIDE);
        }
        pairDue(new NinePence(), true, -1, -1, -1, -1, -1, -1);
        pairDue(new NinePence(), false, -1, -1, -1, -1, -1, -1);
        pairDue(Check.told("left 7 0 0 0"), false, -1, -1, -1, -1, -1, -1);
    }

    private static void chanceDue(NinePence x, int i, long above, long below) {
        due("19 chance(" + i + ", 0)", x.chance(i, 0), above);
        due("19 chance(" + i + ", 1)", x.chance(i, 1), below);
    }

    // 19
    private static void chance() {
        NinePence x = ninety();
        chanceDue(x, 0, 7, 74);
        chanceDue(x, 1, 3, 74);
        chanceDue(x, 2, 15, 37);
        chanceDue(x, 7, 11, 74);
        // Of all, not only of the narrow ones.
        tell(x, "page 0 left 220");
        chanceDue(x, 2, 15, 37);
        for (int i : new int[] {-1, 8, LEAST, MOST}) {
            due("19 chance(" + i + ", 0)", x.chance(i, 0), NinePence.UNKNOWN);
            due("19 UNKNOWN ahead of OUTSIDE", x.chance(i, 2), NinePence.UNKNOWN);
        }
        for (int part : new int[] {-1, 2, LEAST, MOST}) {
            due("19 chance(0, " + part + ")", x.chance(0, part), NinePence.OUTSIDE);
        }
        due("19 chance of nothing", new NinePence().chance(0, 0), NinePence.UNKNOWN);
    }

    private static void chanceWithPairs() {
        NinePence x = eighteen();
        chanceDue(x, 0, 25, 27);
        tell(x, "second 50");
        chanceDue(x, 0, 1, 5);
        tell(x, "second 0");
        chanceDue(x, 0, 1, 1);
        tell(x, "second 99;missed 3");
        // 300 by 300 and 99 * 8.
        chanceDue(x, 0, 25, 91);
        tell(x, "missed 0");
        due("19 chance(0, 0) of none", x.chance(0, 0), NinePence.UNKNOWN);
        // 100 by 100 and 99 * 9801 * 9801.
        NinePence y = Check.told("read 3 5 99;hand 0 1 99;left 15 0 0 0;left 25 0 0 0;right 36 0 0 0;second 99;carry 0",
            "hand 0 0 0;hand 0 2 0;hand 0 3 0;hand 0 4 0");
        chanceDue(y, 0, 100, 9509900599L);
    }

    private static void whoseDue(NinePence x, int hand, int above, int below) {
        due("20 whose(" + hand + ", 0)", x.whose(hand, 0), above);
        due("20 whose(" + hand + ", 1)", x.whose(hand, 1), below);
    }

    // 20
    private static void whose() {
        NinePence x = ninety();
        whoseDue(x, 0, 9, 74);
        whoseDue(x, 1, 6, 37);
        whoseDue(x, 2, 15, 37);
        whoseDue(x, 3, 6, 37);
        tell(x, "page 0 left 220");
        whoseDue(x, 0, 9, 74);
        NinePence y = Check.told("left 21 0 1 0;right 12 0 1 0;missed 0");
        whoseDue(y, 1, 1, 1);
        whoseDue(y, 0, 0, 1);
        // A page and a missed entry are no hand's.
        NinePence z = Check.told("left 110 0 0 1;right 10 0 0 4");
        whoseDue(z, 0, 0, 1);
        for (int hand : new int[] {-1, 4, LEAST, MOST}) {
            due("20 whose(" + hand + ", 0)", x.whose(hand, 0), NinePence.UNKNOWN);
            due("20 UNKNOWN ahead of OUTSIDE", x.whose(hand, 2), NinePence.UNKNOWN);
            due("20 UNKNOWN ahead of NOT", new NinePence().whose(hand, 0), NinePence.UNKNOWN);
        }
        for (int part : new int[] {-1, 2, LEAST, MOST}) {
            due("20 whose(0, " + part + ")", x.whose(0, part), NinePence.OUTSIDE);
            due("20 OUTSIDE ahead of NOT", new NinePence().whose(0, part), NinePence.OUTSIDE);
        }
        due("20 whose(0, 0) of none", new NinePence().whose(0, 0), NinePence.NOT);
        due("20 whose(0, 1) of none", Check.told("left 7 0 0 0;missed 0").whose(0, 1), NinePence.NOT);
    }

    // 21 and 22
    private static void lookAndMean() {
        NinePence x = ninety();
        int[] order = {2, 5, 7, 0, 3, 1, 4};
        due("21 look(-1, false)", x.look(-1, false), 7);
        for (int i = 0; i < order.length; i++) {
            due("21 look(" + i + ", false)", x.look(i, false), order[i]);
        }
        due("21 look(7, false)", x.look(7, false), NinePence.NONE);
        due("22 mean(false, 0)", x.mean(false, 0), 397);
        due("22 mean(false, 1)", x.mean(false, 1), 63);
        tell(x, "page 0 left 220");
        due("21 look(-1, true)", x.look(-1, true), 2);
        due("21 look(0, true)", x.look(0, true), 0);
        due("21 look(1, true)", x.look(1, true), 3);
        due("21 look(2, true)", x.look(2, true), NinePence.NONE);
        due("22 mean(true, 0)", x.mean(true, 0), 45);
        due("22 mean(true, 1)", x.mean(true, 1), 11);
        due("22 mean(false, 0)", x.mean(false, 0), 397);
        // Both are turns by two figures: the greater weight first. Mean: (5 * 2 + 2 * 4) by 7.
        NinePence y = Check.told("left 31 0 0 0;right 13 0 1 0;hand 0 0 2;hand 1 0 5");
        due("21 look(0, false)", y.look(0, false), 1);
        due("21 look(1, false)", y.look(1, false), 0);
        due("22 mean(false, 0)", y.mean(false, 0), 18);
        due("22 mean(false, 1)", y.mean(false, 1), 7);
        // 2 by two figures, 1 by one figure: the least entry is first. Mean: (2 * 2 + 1 * 3) by 3.
        NinePence z = Check.told("left 10 0 0 0;right 1 0 1 0;hand 1 2 1;hand 0 2 2");
        due("21 look(0, false) of several", z.look(0, false), 0);
        due("21 look(1, false) of several", z.look(1, false), 1);
        due("22 mean(false, 0)", z.mean(false, 0), 7);
        due("22 mean(false, 1)", z.mean(false, 1), 3);
        tell(z, "hand 1 2 2");
        due("21 look(0, false) by fewer figures", z.look(0, false), 1);
        due("22 mean(false, 0)", z.mean(false, 0), 2);
        due("22 mean(false, 1)", z.mean(false, 1), 1);
        // Out is 18: the sides of 0 and 1, the noughts of 2 and 3. All weigh 1, so the one with two figures is last.
        NinePence w = Check.told("left 9 0 0 0;left 9 0 0 0;left 20 0 1 0;right 2 0 2 0;right 18 0 3 0");
        due("21 look(-1, false)", w.look(-1, false), 4);
        due("21 one figure each first", w.look(0, false) * 100 + w.look(1, false) * 10 + w.look(2, false), 13);
        due("21 two figures last", w.look(3, false), 2);
        // Out is 90: 100 by a nought (3 by three figures), 45 by its side (4 by two), 190 by a figure (5 by three).
        NinePence v = Check.told("left 100 0 0 0;left 45 0 1 0;right 55 0 0 0;read 0 9 1;hand 0 2 3;hand 1 3 4",
            "left 190 0 2 0;right 190 0 3 0;hand 2 1 5;hand 3 2 0");
        due("21 look(-1, false)", v.look(-1, false), 3);
        due("21 4 by 2 is first", v.look(0, false), 1);
        due("21 5 by 3 is next", v.look(1, false), 3);
        due("21 3 by 3 is last", v.look(2, false), 0);
    }

    private static void lookOutside() {
        NinePence x = ninety();
        for (int i : new int[] {-2, LEAST}) {
            due("21 look(" + i + ", false)", x.look(i, false), NinePence.OUTSIDE);
            due("21 look(" + i + ", true)", x.look(i, true), NinePence.OUTSIDE);
        }
        due("21 look(MOST, false)", x.look(MOST, false), NinePence.NONE);
        due("21 look(-1, true) of nothing", new NinePence().look(-1, true), 0);
        due("21 look(0, true) of nothing", new NinePence().look(0, true), NinePence.NONE);
        for (int part : new int[] {-1, 2, LEAST, MOST}) {
            due("22 mean(false, " + part + ")", x.mean(false, part), NinePence.OUTSIDE);
            due("22 OUTSIDE ahead of NOT", new NinePence().mean(true, part), NinePence.OUTSIDE);
        }
        due("22 mean of nothing", new NinePence().mean(false, 0), NinePence.NOT);
        // There is a single slip, but at no entry.
        NinePence y = Check.told("left 7 0 0 0");
        due("22 mean without an entry", y.mean(false, 1), NinePence.NOT);
        due("21 look without an entry", y.look(-1, false), 0);
        tell(x, "page 0 left 1");
        due("22 mean(true, 0) of none", x.mean(true, 0), NinePence.NOT);
        due("22 mean(false, 0) of some", x.mean(false, 0), 397);
    }

    // 23
    private static void judge() {
        NinePence x = Check.told("left 1236 0 0 0;left 1236 0 1 1;right 1236 0 0 0;left 1236 1 0 0;left 100000 0 0 0",
            "left 5 0 0 0;left 50 2 0 0;right 1236 0 3 3;left 100 0 0 0",
            "hand 0 0 0;hand 0 1 0;hand 0 2 0;hand 0 3 0;hand 0 4 0;hand 1 4 0;hand 3 4 0");
        int[][] judged = {
            {0, 0, 1263, TURN}, {0, 0, 2136, TURN}, {0, 0, 1326, TURN}, {0, 0, 1362, -1}, {0, 0, 1236, -1},
            {0, 0, 1235, FIGURE}, {0, 0, 9236, FIGURE}, {0, 0, 1036, FIGURE}, {0, 0, 236, -1}, {0, 0, 1245, -1},
            {0, 0, 12360, NOUGHT}, {0, 0, 123, -1}, {0, 0, 12361, -1}, {0, 0, 123600, -1},
            {0, 1, 1236, SIDE}, {0, 1, 1263, -1}, {0, 1, 12360, -1}, {2, 0, 1236, SIDE}, {2, 1, 1263, TURN},
            {0, 0, 0, -1}, {1, 0, 0, TWICE}, {1, 1, 0, -1}, {2, 1, 0, -1}, {3, 0, 0, -1}, {7, 1, 0, TWICE}, {7, 0, 0, -1},
            {4, 0, 10000, NOUGHT}, {4, 0, 999999, -1}, {4, 0, 900000, FIGURE}, {4, 0, 1, -1}, {4, 0, 100001, FIGURE},
            {5, 0, 50, NOUGHT}, {5, 0, 9, FIGURE}, {5, 0, 1, FIGURE}, {5, 0, 0, -1}, {5, 0, 5, -1}, {5, 1, 5, SIDE},
            {6, 0, 5, NOUGHT}, {6, 0, 500, NOUGHT}, {6, 0, 55, FIGURE}, {6, 0, 0, -1}, {6, 1, 50, SIDE},
            {8, 0, 10, NOUGHT}, {8, 0, 1, -1}, {8, 0, 110, FIGURE}, {8, 0, 1000, NOUGHT}, {8, 0, 10000, -1}};
        for (int[] row : judged) {
            due("23 judge(" + row[0] + ", " + row[1] + ", " + row[2] + ")", x.judge(row[0], row[1], row[2]), row[3]);
        }
    }

    private static void judgeOutside() {
        NinePence x = Check.told("left 1236 0 0 0;left 999999 0 0 0");
        for (int entry : new int[] {-1, 2, LEAST, MOST}) {
            due("23 judge(" + entry + ", 0, 5)", x.judge(entry, 0, 5), NinePence.UNKNOWN);
            due("23 UNKNOWN ahead of OUTSIDE", x.judge(entry, 2, -1), NinePence.UNKNOWN);
        }
        for (int side : new int[] {-1, 2, LEAST, MOST}) {
            due("23 judge(0, " + side + ", 5)", x.judge(0, side, 5), NinePence.OUTSIDE);
            due("23 judge(0, " + side + ", 0)", x.judge(0, side, 0), NinePence.OUTSIDE);
        }
        for (int sum : new int[] {-1, 1000000, LEAST, MOST}) {
            due("23 judge(0, 0, " + sum + ")", x.judge(0, 0, sum), NinePence.OUTSIDE);
        }
        due("23 judge(1, 0, 999998)", x.judge(1, 0, 999998), FIGURE);
        due("23 judge(1, 0, 99999)", x.judge(1, 0, 99999), NinePence.NONE);
    }

    // What was asked before a change is not answered again behind it.
    private static void answersFollowChanges() {
        NinePence x = Check.told("left 21 0 0 0;right 12 0 0 0");
        manyDue(x, false, 3);
        due("17 hide(0)", x.hide(0), 0);
        x.mend(0, 0, 12);
        manyDue(x, false, 0);
        due("17 hide(0) mended", x.hide(0), 3);
        x.strike(1);
        manyDue(x, false, 1);
        due("17 hide(0) struck", x.hide(0), 0);
        x.mend(0, 0, 21);
        tell(x, "right 12 0 0 0");
        manyDue(x, false, 3);
        due("14 weight", x.one(0, 4, false), 1);
        x.learn(0, 0);
        due("14 weight learned", x.one(0, 4, false), 2);
        due("21 look(0, true)", x.look(0, true), 0);
        tell(x, "page 0 left 9");
        due("21 look(0, true) with a due", x.look(0, true), NinePence.NONE);
        tell(x, "hand 0 0 0");
        due("15 ofKind(0)", x.ofKind(0), 0);
    }
}
