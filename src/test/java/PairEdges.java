/** The edges of pairs of slips: TWO, HIDE and the LIKELIEST, of CHANCE and WHOSE, and of promises 16 to 20. */
final class PairEdges {
    private static final int LEAST = Integer.MIN_VALUE, MOST = Integer.MAX_VALUE;
    private static final int NONE = NinePence.NONE, UNKNOWN = NinePence.UNKNOWN, OUTSIDE = NinePence.OUTSIDE;
    private static final int NOT = NinePence.NOT;
    private static final int TURN = 0, FIGURE = 1, NOUGHT = 2, SIDE = 3, TWICE = 4, MISSED = 5, CARRY = 6;

    private final Sentences edges;

    PairEdges(Sentences edges) {
        this.edges = edges;
    }

    void ask() {
        twoAtUnlikePlaces();
        twoOfAllKinds();
        twoJustSo();
        weights();
        hides();
        likeliest();
        chances();
        chanceIsLong();
        whoseOfAll();
        promiseTwo();
        promiseHide();
        promisePair();
        promiseChance();
        promiseWhose();
    }

    private void due(String call, long got, long want) {
        edges.due(call, got, want);
    }

    private void pairDue(NinePence x, boolean hides, int... want) {
        for (int what = 0; what < 6; what++) {
            due("pair(" + hides + ", " + what + ")", x.pair(hides, what), want.length == 0 ? NONE : want[what]);
        }
    }

    private void partsDue(String call, long above, long below, long wantAbove, long wantBelow) {
        due(call + ", 0)", above, wantAbove);
        due(call + ", 1)", below, wantBelow);
    }

    /** The hand makes slips of one kind alone; of none, if that is NONE. */
    static String only(int hand, int kind) {
        StringBuilder text = new StringBuilder();
        for (int other = 0; other < 5; other++) {
            text.append(other == 0 ? "" : ";").append("hand ").append(hand).append(' ').append(other).append(other == kind ? " 1" : " 0");
        }
        return text.toString();
    }

    private void twoAtUnlikePlaces() {
        edges.of("TWO: pairs of SLIPS (KINDS 0 to 4, 6) at unlike PLACES (one at an ENTRY, the other one at another ENTRY;"
            + " or at a PAGE; two at unlike PAGES) that together make OUT 0;");
        // The two turns of 2143 together make 1234, but are at one entry; those of 2100 and 21 are at two.
        NinePence one = Check.told("left 2143 0 0 0;right 1234 0 1 0;carry 0", only(0, TURN), only(1, NONE));
        due("two(0) at one entry", one.two(0), 0);
        NinePence other = Check.told("left 2100 0 0 0;left 21 0 0 0;right 1212 0 1 0;carry 0", only(0, TURN), only(1, NONE));
        due("two(0) at two entries", other.two(0), 1);
        pairDue(other, false, TURN, 0, 1200, TURN, 1, 12);
        // An entry and a page, of whatever numbers.
        for (int page : new int[] {0, 5}) {
            NinePence entryAndPage = Check.told("left 10 0 0 " + page);
            due("two(0) at entry 0 and page " + page, entryAndPage.two(0), 2);
            pairDue(entryAndPage, false, NOUGHT, 0, 100, CARRY, page, 2);
        }
        // Two pages, but not one page twice.
        NinePence pages = Check.told("left 100 0 0 0;left 10 0 0 5", only(0, NONE));
        due("two(0) at two pages", pages.two(0), 2);
        pairDue(pages, false, CARRY, 0, 1, CARRY, 5, 2);
        NinePence page = Check.told("left 100 0 0 5;left 10 0 0 5", only(0, NONE));
        due("two(0) at one page", page.two(0), 0);
        due("hide(0) at one page", page.hide(0), 0);
        pairDue(page, false);
        // All six pages: each two of them, with 10 and 10.
        NinePence six = Check.told("left 20 0 0 0", only(0, NONE));
        for (int i = 1; i < 6; i++) {
            Check.done(six, "left 5 0 0 " + i + ";right 5 0 0 " + i);
        }
        due("two(0) at six pages", six.two(0), 15);
        pairDue(six, false, CARRY, 0, 1, CARRY, 1, 1);
        due("hide(0) at six pages", six.hide(0), 15 * 10);
        // With out 0, just those that hide each other.
        NinePence even = Check.told("left 55 0 0 0;right 55 0 0 0;carry 0");
        due("two(0) with out 0", even.two(0), 2);
    }

    // By kinds: an entry that is 90 too much, and what should stand.
    private static final int[] NINETY = {210, 190, 100, 45, 90}, SHOULD = {120, 100, 10, 45, 0};

    // Hand 2 makes slips of the one kind alone, hand 3 of the other one: there is just the one pair.
    private void twoOfAllKinds() {
        for (int kind = 0; kind < 5; kind++) {
            for (int other = kind; other < 7; other++) {
                if (other != MISSED) {
                    boolean carry = other == CARRY;
                    NinePence x = Check.told("left 90 7 1 4;left " + NINETY[kind] + " 7 2 4;read 0 9 1;missed 99;carry " + (carry ? 1 : 0),
                        only(0, NONE), only(1, NONE), only(2, kind), only(3, other));
                    if (!carry) {
                        Check.done(x, "left " + NINETY[other] + " 7 3 4");
                    }
                    // What is left over stands on the other side, so that out is 180 or, with 100 carried, 190.
                    int over = x.out(-1) - 50000000 - (carry ? 190 : 180);
                    if (over != 0) {
                        Check.done(x, (over > 0 ? "right " : "left ") + Math.abs(over) + " 0 0 4");
                    }
                    due("two(0) of " + kind + " and " + other, x.two(0), 1);
                    due("two(1) of " + kind + " and " + other, x.two(1), 1);
                    pairDue(x, false, kind, 1, SHOULD[kind], other, carry ? 4 : 2, carry ? 2 : SHOULD[other]);
                }
            }
        }
    }

    private void twoJustSo() {
        for (int right = 23; right <= 25; right++) {
            NinePence x = Check.told("left 21 0 0 0;left 21 1 0 0;right " + right + " 0 1 0;carry 0", only(0, TURN), only(1, NONE));
            due("two(0), out " + (42 - right), x.two(0), right == 24 ? 1 : 0);
            due("two(1), out " + (42 - right), x.two(1), right == 24 ? 1 : 0);
            NinePence y = Check.told("right 21 0 0 0;right 21 1 0 0;left " + right + " 0 1 0;carry 0", only(0, TURN), only(1, NONE));
            due("two(0), out " + (right - 42), y.two(0), right == 24 ? 1 : 0);
        }
        // A single slip that makes out 0 is no pair, with whatever other.
        due("two(0) of a single slip", Check.told("left 21 0 0 0;right 12 0 1 0;carry 0", only(0, TURN), only(1, NONE)).two(0), 0);
    }

    /** So many entries of 15, each of which may be 13; out is 4. */
    private static NinePence thirteens(int many) {
        NinePence x = Check.told("hand 0 1 99;read 3 5 99;carry 0;hand 0 0 0;hand 0 2 0;hand 0 3 0;hand 0 4 0", only(1, NONE));
        for (int i = 0; i < many; i++) {
            Check.done(x, "left 15 0 0 0");
        }
        Check.done(x, "right " + (15 * many - 4) + " 0 1 0");
        return x;
    }

    private void weights() {
        edges.of("WEIGHT: that of both, multiplied.");
        NinePence x = Check.told("left 21 0 0 0;left 21 0 2 0;right 24 0 1 0;carry 0", only(0, TURN), only(1, NONE), only(2, TURN));
        int[][] odds = {{1, 1}, {2, 3}, {99, 99}, {99, 1}, {0, 99}, {99, 0}, {0, 0}, {1, 99}};
        for (int[] both : odds) {
            Check.done(x, "hand 0 0 " + both[0] + ";hand 2 0 " + both[1]);
            due("two(0)", x.two(0), both[0] * both[1] > 0 ? 1 : 0);
            due("two(1)", x.two(1), both[0] * both[1]);
        }
        NinePence two = thirteens(2);
        due("two(0) of the greatest", two.two(0), 1);
        due("two(1) of the greatest", two.two(1), 9801L * 9801L);
        NinePence many = thirteens(29);
        due("two(0) of 29", many.two(0), 29 * 28 / 2);
        due("two(1) of 29", many.two(1), 39000198006L);
        pairDue(many, false, FIGURE, 0, 13, FIGURE, 1, 13);
        // Half of them on the other side: they hide each other, whatever out is.
        for (int i = 0; i < 14; i++) {
            many.mend(i, 1, 15);
        }
        due("hide(0) of 14 and 15", many.hide(0), 14 * 15);
        due("hide(1) of 14 and 15", many.hide(1), 14 * 15 * 9801L * 9801L);
        pairDue(many, true, FIGURE, 0, 13, FIGURE, 14, 13);
    }

    private void hides() {
        edges.of("HIDE: pairs whose CHANGES together are 0, whatever OUT is.");
        NinePence x = Check.told("left 55 0 0 0;right 55 0 0 0;left 500000 0 1 0;carry 0", only(1, NONE));
        for (int more : new int[] {1, 4, 9, 90, 10000, 999999}) {
            for (int side = 0; side < 2; side++) {
                x.mend(2, side, more);
                due("hide(0) with out " + more, x.hide(0), 2);
                due("hide(1) with out " + more, x.hide(1), 2);
                pairDue(x, true, NOUGHT, 0, 550, NOUGHT, 1, 550);
                due("two(0) with out " + more, x.two(0), 0);
            }
        }
        x.strike(2);
        due("hide(0) with out 0", x.hide(0), 2);
        due("two(0) with out 0", x.two(0), 2);
        // Not just so: 55 and 56 hide nothing; on one side, neither.
        x.mend(1, 1, 56);
        due("hide(0) of 55 and 56", x.hide(0), 0);
        x.mend(1, 0, 55);
        due("hide(0) on one side", x.hide(0), 0);
        hidesInAFullBook();
        // A missed entry hides nothing.
        due("hide(0) and missed", Check.told("right 10 0 0 0;missed 99", only(0, NONE)).hide(0), 0);
        due("hide(0) of nothing", new NinePence().hide(0), 0);
    }

    // Thirty entries with as many slips as can be: each of six figures may be any other.
    private void hidesInAFullBook() {
        NinePence x = Check.told("carry 0", only(0, FIGURE));
        for (int figure = 0; figure < 10; figure++) {
            StringBuilder reads = new StringBuilder("missed 0");
            for (int other = 0; other < 10; other++) {
                reads.append(figure == other ? "" : ";read " + figure + " " + other + " 1");
            }
            Check.done(x, reads.toString());
        }
        for (int i = 0; i < 30; i++) {
            Check.done(x, (i < 15 ? "left" : "right") + " 123450 0 0 0");
        }
        // Left and right: all 53 of one as those of the other. On one side: where as much more as less can be,
        // 4 of the second figure, 6 of the third, 8 of the fourth and 8 of the fifth.
        due("hide(0) of a full book", x.hide(0), 15 * 15 * 53 + 2 * (15 * 14 / 2) * (4 + 6 + 8 + 8));
        due("hide(1) of a full book", x.hide(1), 17385);
        pairDue(x, true, FIGURE, 0, 103450, FIGURE, 1, 143450);
        Check.done(x, "read 1 2 9");
        due("hide(0) of a full book", x.hide(0), 17385);
        pairDue(x, true, FIGURE, 0, 113450, FIGURE, 15, 113450);
    }

    /** Out is 18, and any two of four turns explain it. */
    private static NinePence fourTurns() {
        return Check.told("left 21 0 0 0;left 21 1 1 0;left 21 2 2 0;left 21 3 3 0;right 66 0 0 0;missed 0;carry 0",
            only(0, TURN), only(1, TURN), only(2, TURN), only(3, TURN));
    }

    private void likeliest() {
        edges.of("The LIKELIEST: the pair of the greatest WEIGHT, of several the first (by the first SLIP, then the second).");
        // The weights of the four turns, then the two of them that are likeliest.
        int[][] rows = {{1, 1, 1, 1, 0, 1}, {1, 2, 2, 2, 1, 2}, {2, 1, 1, 2, 0, 3}, {2, 1, 1, 1, 0, 1}, {1, 1, 2, 1, 0, 2},
            {1, 1, 1, 2, 0, 3}, {1, 2, 1, 2, 1, 3}, {4, 1, 2, 2, 0, 2}, {1, 1, 2, 2, 2, 3}, {1, 99, 98, 99, 1, 3}, {99, 99, 99, 99, 0, 1},
            {0, 1, 1, 1, 1, 2}, {1, 0, 1, 1, 0, 2}, {0, 0, 1, 1, 2, 3}, {3, 2, 0, 3, 0, 3}, {6, 6, 4, 9, 0, 3}};
        NinePence same = fourTurns();
        for (int[] row : rows) {
            NinePence x = fourTurns();
            String odds = "hand 0 0 " + row[0] + ";hand 1 0 " + row[1] + ";hand 2 0 " + row[2] + ";hand 3 0 " + row[3];
            Check.done(x, odds);
            pairDue(x, false, TURN, row[4], 12, TURN, row[5], 12);
            // Whatever weighed most before.
            Check.done(same, odds);
            pairDue(same, false, TURN, row[4], 12, TURN, row[5], 12);
        }
        // Of one place by what should stand; the second of the pair likewise: 2 and 2, ahead of 200 and 200.
        NinePence y = Check.told("left 20 0 0 0;right 20 0 0 0;carry 0", only(0, NOUGHT));
        pairDue(y, true, NOUGHT, 0, 2, NOUGHT, 1, 2);
        // One first slip with either of two others: the second of the pair is the first of these.
        NinePence z = Check.told("left 9 0 0 0;right 9 0 0 0;right 9 0 0 0;carry 0", only(0, NOUGHT));
        pairDue(z, true, NOUGHT, 0, 90, NOUGHT, 1, 90);
        due("hide(0)", z.hide(0), 2);
        // By the kind ahead of the place: a turn at entry 1 comes ahead of a nought at entry 0.
        NinePence w = Check.told("left 1 0 0 0;left 21 0 1 0;right 1 0 0 0;right 21 0 1 0;carry 0", only(0, NOUGHT), only(1, TURN));
        due("hide(0)", w.hide(0), 4);
        pairDue(w, true, TURN, 1, 12, TURN, 3, 12);
        Check.done(w, "hand 0 2 2");
        pairDue(w, true, NOUGHT, 0, 10, NOUGHT, 2, 10);
        // There is none.
        pairDue(new NinePence(), true);
        pairDue(new NinePence(), false);
    }

    private void chances() {
        edges.of("CHANCE of a single SLIP of ONE: 100 times its WEIGHT, by (100 times all WEIGHTS of ONE,"
            + " and SECOND times all WEIGHTS of TWO), together.");
        // No pair: the turns weigh 1 each, and so does the missed entry.
        NinePence x = Check.told("left 21 0 0 0;right 12 0 1 0");
        due("two(0)", x.two(0), 0);
        for (int i = 0; i < 3; i++) {
            partsDue("chance(" + i, x.chance(i, 0), x.chance(i, 1), 1, 3);
        }
        Check.done(x, "missed 99;second 99");
        partsDue("chance(0", x.chance(0, 0), x.chance(0, 1), 1, 101);
        partsDue("chance(2", x.chance(2, 0), x.chance(2, 1), 99, 101);
        Check.done(x, "missed 0;hand 1 0 0");
        partsDue("chance(0", x.chance(0, 0), x.chance(0, 1), 1, 1);
        // Six pairs of weight 1, and the missed entry.
        NinePence y = fourTurns();
        Check.done(y, "missed 1");
        partsDue("chance(0, second 1", y.chance(0, 0), y.chance(0, 1), 50, 53);
        Check.done(y, "second 0");
        partsDue("chance(0, second 0", y.chance(0, 0), y.chance(0, 1), 1, 1);
        Check.done(y, "second 99");
        partsDue("chance(0, second 99", y.chance(0, 0), y.chance(0, 1), 50, 347);
        Check.done(y, "second 50");
        partsDue("chance(0, second 50", y.chance(0, 0), y.chance(0, 1), 1, 4);
        Check.done(y, "second 99;missed 99;hand 0 0 99;hand 1 0 99;hand 2 0 99;hand 3 0 99");
        partsDue("chance(0, all 99", y.chance(0, 0), y.chance(0, 1), 50, 29453);
        // Pairs alone are no single slip.
        Check.done(y, "missed 0");
        due("chance(0, 0) of none", y.chance(0, 0), UNKNOWN);
    }

    // The parts are greater than an int holds.
    private void chanceIsLong() {
        NinePence x = thirteens(29);
        Check.done(x, "second 99");
        due("one(-1, 0, false)", x.one(-1, 0, false), 1);
        partsDue("chance(0", x.chance(0, 0), x.chance(0, 1), 50, 1930509801347L);
        Check.done(x, "missed 99");
        partsDue("chance(0", x.chance(0, 0), x.chance(0, 1), 50, 19500099053L);
    }

    private void whoseOfAll() {
        edges.of("WHOSE: of all WEIGHTS of ONE those at ENTRIES of a HAND.");
        NinePence x = Check.told("left 21 0 0 0;right 12 0 3 0");
        int[] thirds = {1, 0, 0, 1};
        for (int hand = 0; hand < 4; hand++) {
            partsDue("whose(" + hand, x.whose(hand, 0), x.whose(hand, 1), thirds[hand], thirds[hand] == 0 ? 1 : 3);
        }
        Check.done(x, "missed 0;hand 3 0 3");
        partsDue("whose(0", x.whose(0, 0), x.whose(0, 1), 1, 4);
        partsDue("whose(3", x.whose(3, 0), x.whose(3, 1), 3, 4);
        Check.done(x, "hand 0 0 0");
        partsDue("whose(0", x.whose(0, 0), x.whose(0, 1), 0, 1);
        partsDue("whose(3", x.whose(3, 0), x.whose(3, 1), 1, 1);
        // Missed entries and carries are of all weights, but no hand's; pairs are not of them.
        NinePence y = Check.told("left 100 0 2 0;right 10 0 2 5;left 10 0 1 5;hand 2 2 4;missed 99;carry 99", only(1, NONE));
        due("ofKind(6)", y.ofKind(CARRY), 2);
        partsDue("whose(2", y.whose(2, 0), y.whose(2, 1), 0, 1);
        y.mend(2, 0, 1);
        y.mend(1, 1, 11);
        due("out(-1)", y.out(-1), 50000090);
        partsDue("whose(2", y.whose(2, 0), y.whose(2, 1), 4, 103);
        partsDue("whose(1", y.whose(1, 0), y.whose(1, 1), 0, 1);
        NinePence z = fourTurns();
        due("whose of pairs alone", z.whose(0, 0), NOT);
    }

    private void promiseTwo() {
        edges.of("TWO: how many (what 0), all WEIGHTS (1). OUTSIDE.");
        NinePence x = fourTurns();
        Check.done(x, "hand 1 0 2");
        due("two(0)", x.two(0), 6);
        due("two(1)", x.two(1), 9);
        due("two(0) of none", new NinePence().two(0), 0);
        due("two(1) of none", new NinePence().two(1), 0);
        for (int what : new int[] {LEAST, -1, 2, 3, MOST}) {
            due("two(" + what + ")", x.two(what), OUTSIDE);
            due("two(" + what + ") of none", new NinePence().two(what), OUTSIDE);
        }
    }

    private void promiseHide() {
        edges.of("HIDE: how many (what 0), all WEIGHTS (1). OUTSIDE.");
        NinePence x = Check.told("left 55 0 0 0;right 55 0 1 0;carry 0;hand 1 2 7;hand 1 3 8");
        due("hide(0)", x.hide(0), 2);
        due("hide(1)", x.hide(1), 15);
        due("hide(0) of none", new NinePence().hide(0), 0);
        due("hide(1) of none", new NinePence().hide(1), 0);
        for (int what : new int[] {LEAST, -1, 2, 3, MOST}) {
            due("hide(" + what + ")", x.hide(what), OUTSIDE);
            due("hide(" + what + ") of none", new NinePence().hide(what), OUTSIDE);
        }
    }

    private void promisePair() {
        edges.of("The LIKELIEST of TWO, or of HIDE (hides): of its first SLIP KIND (what 0), PLACE (1), SHOULD (2),"
            + " of its second (3, 4, 5); NONE: there is none. OUTSIDE.");
        NinePence x = fourTurns();
        Check.done(x, "left 9 7 0 0;right 9 7 0 0;hand 0 3 5");
        pairDue(x, false, TURN, 0, 12, TURN, 1, 12);
        pairDue(x, true, SIDE, 5, 9, SIDE, 6, 9);
        // A line twice stands for nothing, and a carry for its column.
        NinePence y = Check.told("left 10 0 1 0;left 10 0 0 0;right 10 0 1 5", only(0, TWICE), only(1, NONE));
        pairDue(y, true, TWICE, 1, 0, CARRY, 0, 1);
        for (int what : new int[] {LEAST, -1, 6, 7, MOST}) {
            due("pair(false, " + what + ")", x.pair(false, what), OUTSIDE);
            due("pair(true, " + what + ")", x.pair(true, what), OUTSIDE);
            due("pair(false, " + what + ") of none", new NinePence().pair(false, what), OUTSIDE);
            due("pair(true, " + what + ") of none", new NinePence().pair(true, what), OUTSIDE);
        }
        pairDue(new NinePence(), false);
        pairDue(new NinePence(), true);
        // There is one that hides, and none that makes out 0.
        NinePence z = Check.told("left 55 0 0 0;right 55 0 0 0;left 1 0 1 0;carry 0", only(1, NONE));
        pairDue(z, false);
        pairDue(z, true, NOUGHT, 0, 550, NOUGHT, 1, 550);
    }

    private void promiseChance() {
        edges.of("CHANCE of the i-th of ONE (not NARROW). UNKNOWN: there are not so many, i is below 0; OUTSIDE: part.");
        NinePence x = Check.told("left 21 0 0 0;right 12 0 1 5;hand 1 0 2;page 5 right 12");
        due("one(-1, 0, true)", x.one(-1, 0, true), 2);
        partsDue("chance(0", x.chance(0, 0), x.chance(0, 1), 1, 4);
        partsDue("chance(1", x.chance(1, 0), x.chance(1, 1), 1, 2);
        partsDue("chance(2", x.chance(2, 0), x.chance(2, 1), 1, 4);
        for (int i : new int[] {LEAST, -2, -1, 3, 4, MOST}) {
            for (int part : new int[] {LEAST, -1, 0, 1, 2, MOST}) {
                due("chance(" + i + ", " + part + ")", x.chance(i, part), UNKNOWN);
            }
        }
        for (int part : new int[] {LEAST, -1, 2, MOST}) {
            for (int i = 0; i < 3; i++) {
                due("chance(" + i + ", " + part + ")", x.chance(i, part), OUTSIDE);
            }
            due("chance(0, " + part + ") of none", new NinePence().chance(0, part), UNKNOWN);
        }
        due("chance(0, 0) of none", new NinePence().chance(0, 0), UNKNOWN);
    }

    private void promiseWhose() {
        edges.of("WHOSE. UNKNOWN: the HAND; OUTSIDE; NOT: there is no ONE.");
        NinePence x = Check.told("left 21 0 0 0;right 12 0 3 5;page 5 right 1");
        due("one(-1, 0, true)", x.one(-1, 0, true), 0);
        partsDue("whose(3, narrow or not", x.whose(3, 0), x.whose(3, 1), 1, 3);
        NinePence none = Check.told("left 7 0 0 0;missed 0");
        for (int hand : new int[] {LEAST, -1, 4, 5, MOST}) {
            for (int part : new int[] {LEAST, -1, 0, 1, 2, MOST}) {
                due("whose(" + hand + ", " + part + ")", x.whose(hand, part), UNKNOWN);
                due("whose(" + hand + ", " + part + ") of none", none.whose(hand, part), UNKNOWN);
            }
        }
        for (int part : new int[] {LEAST, -1, 2, MOST}) {
            for (int hand = 0; hand < 4; hand++) {
                due("whose(" + hand + ", " + part + ")", x.whose(hand, part), OUTSIDE);
                due("whose(" + hand + ", " + part + ") of none", none.whose(hand, part), OUTSIDE);
            }
        }
        for (int hand = 0; hand < 4; hand++) {
            due("whose(" + hand + ", 0) of none", none.whose(hand, 0), NOT);
            due("whose(" + hand + ", 1) of none", none.whose(hand, 1), NOT);
            due("whose(" + hand + ", 0) of nothing", new NinePence().whose(hand, 0), NOT);
        }
    }
}
