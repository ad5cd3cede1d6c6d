/** The edges of SIGNS, LOOK, MEAN and what is judged, of parts, and of promises 13 and 21 to 23. */
final class AnswerEdges {
    private static final int LEAST = Integer.MIN_VALUE, MOST = Integer.MAX_VALUE;
    private static final int NONE = NinePence.NONE, UNKNOWN = NinePence.UNKNOWN, OUTSIDE = NinePence.OUTSIDE;
    private static final int NOT = NinePence.NOT;
    private static final int TURN = 0, FIGURE = 1, NOUGHT = 2, SIDE = 3, TWICE = 4;

    private final Sentences edges;

    AnswerEdges(Sentences edges) {
        this.edges = edges;
    }

    void ask() {
        signsOfOut();
        nineGoesIntoIt();
        halfOfIt();
        sumOfAnEntry();
        tens();
        nineTimes();
        promiseSigns();
        look();
        mean();
        lowestTerms();
        promiseLook();
        promiseMean();
        promiseJudge();
        judgeWithoutWeight();
    }

    private void due(String call, long got, long want) {
        edges.due(call, got, want);
    }

    /** A book of these sums, those below 0 on the right. */
    private static NinePence book(int... sums) {
        NinePence x = new NinePence();
        for (int sum : sums) {
            Check.done(x, (sum > 0 ? "left " : "right ") + Math.abs(sum) + " 0 0 0");
        }
        return x;
    }

    // The bit of a book and of the same book with its sides the other way round.
    private void bitDue(int bit, int want, int... sums) {
        due("bit " + bit + " of " + java.util.Arrays.toString(sums), book(sums).signs() >> bit & 1, want);
        int[] other = new int[sums.length];
        for (int i = 0; i < sums.length; i++) {
            other[i] = -sums[i];
        }
        due("bit " + bit + " of " + java.util.Arrays.toString(other), book(other).signs() >> bit & 1, want);
    }

    private void signsOfOut() {
        edges.of("SIGNS of OUT (without sign; other than 0), by bits:");
        due("signs of nothing", new NinePence().signs(), NOT);
        due("signs of 1", book(1).signs(), 4);
        due("signs of -1", book(-1).signs(), 4);
        due("signs of 2 by 5 and -3", book(5, -3).signs(), 0);
        due("signs of -2 by 3 and -5", book(3, -5).signs(), 0);
        // Nine goes into no 10 to the k, so these are as many bits at once as there can be.
        due("signs of 18", book(18, 9, 2, -11).signs(), 1 + 2 + 4 + 16);
        due("signs of 10", book(10, 5, -5).signs(), 2 + 4 + 8);
        due("signs of 90", book(90, 45, 10, -55).signs(), 1 + 2 + 4 + 16);
        due("signs of 29999970", BookEdges.bookOf(30, "left", 999999).signs(), 1);
        due("signs of -29999970", BookEdges.bookOf(30, "right", 999999).signs(), 1);
    }

    private void nineGoesIntoIt() {
        edges.of("0 nine goes into it,");
        for (int out = 1; out <= 30; out++) {
            bitDue(0, out % 9 == 0 ? 1 : 0, out);
            bitDue(0, out % 9 == 0 ? 1 : 0, out + 7, -7);
        }
        bitDue(0, 1, 999999);
        bitDue(0, 0, 999998);
        bitDue(0, 0, 999999, 1);
    }

    private void halfOfIt() {
        edges.of("1 it is even and half of it is the SUM of an ENTRY on the greater SIDE,");
        bitDue(1, 1, 1, 1);
        bitDue(1, 1, 4, 3, 1);
        bitDue(1, 1, 3, 3);
        bitDue(1, 1, 999999, 999999);
        bitDue(1, 0, 3, 4);
        bitDue(1, 0, 3, 5);
        bitDue(1, 0, 2, 1);
        // On the lesser side alone.
        bitDue(1, 0, 9, -3);
        bitDue(1, 0, 5, 7, -4);
        bitDue(1, 1, 9, 3, -3, -3);
        // The last entry, and one that is struck out.
        bitDue(1, 1, 10, 7, -11, 3, -3);
        NinePence x = book(1, 5, 3, -3);
        due("bit 1 ahead of strike", x.signs() & 2, 2);
        x.strike(3);
        x.strike(2);
        due("signs behind strike", x.signs(), 0);
    }

    private void sumOfAnEntry() {
        edges.of("2 it is the SUM of an ENTRY on the greater SIDE,");
        bitDue(2, 1, 1);
        bitDue(2, 1, 999999);
        bitDue(2, 1, 6, -6, 6);
        bitDue(2, 1, 6, 7, -7);
        bitDue(2, 0, 7, -1);
        bitDue(2, 0, 5, -1);
        // On the lesser side alone.
        bitDue(2, 0, 12, -6);
        bitDue(2, 0, 7, 5, -6);
        NinePence x = book(3, 4, 7, -7);
        due("bit 2 ahead of strike", x.signs() & 4, 4);
        x.strike(3);
        x.strike(2);
        due("signs behind strike", x.signs(), 0);
    }

    private void tens() {
        edges.of("3 it is 10 to the k (k 1 .. 5),");
        for (int ten = 10; ten <= 100000; ten *= 10) {
            bitDue(3, 1, ten);
            bitDue(3, 1, ten + 3, -3);
            bitDue(3, 0, ten - 1);
            bitDue(3, 0, ten + 1);
            bitDue(3, 0, 2 * ten);
            bitDue(3, 0, ten + ten / 10);
        }
        bitDue(3, 0, 1);
        bitDue(3, 0, 8, -7);
        bitDue(3, 0, 999999, 1);
        bitDue(3, 0, 999999, 999999, -999998);
        bitDue(3, 0, 50000, 50000, 50000);
        NinePence million = BookEdges.bookOf(10, "left", 999999);
        Check.done(million, "left 10 0 0 0");
        due("bit 3 of ten millions", million.signs() & 8, 0);
    }

    private void nineTimes() {
        edges.of("4 it is nine times the SUM of an ENTRY, or nine tenths of one (just so; of either SIDE).");
        bitDue(4, 1, 1, 8);
        bitDue(4, 1, 10, 1, -1, -1);
        bitDue(4, 1, 10, 2, -3);
        bitDue(4, 1, 19, -10);
        bitDue(4, 1, 2, 3, 17, -4);
        bitDue(4, 1, 999990, -99999);
        due("bit 4 of nine times the greatest", BookEdges.bookOf(9, "left", 999999).signs() & 16, 16);
        due("bit 4 of eight times the greatest", BookEdges.bookOf(8, "left", 999999).signs() & 16, 0);
        due("bit 4 of ten times the greatest", BookEdges.bookOf(10, "left", 999999).signs() & 16, 0);
        // Not just so: nine tenths of 11 is 9.9, of 15 is 13.5, of 19 is 17.1.
        bitDue(4, 0, 11, -2);
        bitDue(4, 0, 11, -1);
        bitDue(4, 0, 15, -2);
        bitDue(4, 0, 15, -1);
        bitDue(4, 0, 19, -2);
        bitDue(4, 0, 9);
        bitDue(4, 0, 90);
        bitDue(4, 0, 4, 5);
        NinePence x = book(4, 5, 10, -10);
        due("bit 4 ahead of strike", x.signs() & 16, 16);
        x.strike(3);
        x.strike(2);
        due("signs behind strike", x.signs(), 1);
    }

    private void promiseSigns() {
        edges.of("SIGNS. NOT: OUT is 0.");
        due("signs of nothing", new NinePence().signs(), NOT);
        due("signs of an even book", book(999999, -999999).signs(), NOT);
        NinePence x = book(7, -6);
        due("signs of 1", x.signs(), 0);
        x.mend(1, 1, 7);
        due("signs, mended", x.signs(), NOT);
        x.strike(1);
        due("signs, one struck out", x.signs(), 4);
        x.strike(0);
        due("signs, all struck out", x.signs(), NOT);
        // Even as a whole, though its pages are not.
        due("signs of two pages", Check.told("left 5 0 0 0;right 5 0 0 1;page 0 left 4").signs(), NOT);
        due("signs of what is due", Check.told("left 7 0 0 0;right 6 0 0 0;page 0 left 1").signs(), 0);
    }

    private void lookDue(NinePence x, boolean narrow, int... order) {
        due("look(-1, " + narrow + ")", x.look(-1, narrow), order.length);
        for (int i = 0; i < order.length; i++) {
            due("look(" + i + ", " + narrow + ")", x.look(i, narrow), order[i]);
        }
        due("look(" + order.length + ", " + narrow + ")", x.look(order.length, narrow), NONE);
    }

    private void meanDue(NinePence x, boolean narrow, int above, int below) {
        due("mean(" + narrow + ", 0)", x.mean(narrow, 0), above);
        due("mean(" + narrow + ", 1)", x.mean(narrow, 1), below);
    }

    /** Thirty entries each of which alone would explain the 9 that out is, by a turn or a figure. */
    private static NinePence thirtyToLookAt() {
        NinePence x = Check.told("left 21 0 0 0;read 0 9 1;read 9 0 1;hand 0 2 0;hand 0 3 0;hand 0 4 0;carry 0");
        for (int i = 0; i < 29; i++) {
            Check.done(x, i < 6 ? "right 12 0 0 0" : i < 16 ? "left 19 0 0 0" : "right 10 0 0 0");
        }
        return x;
    }

    private void look() {
        edges.of("LOOK: ENTRIES with SLIPS (KINDS 0 to 4) of ONE (NARROW, if so asked), WEIGHTS together by how many figures each has,"
            + " the greatest first, of several the least ENTRY.");
        int[] all = new int[30];
        for (int i = 0; i < 30; i++) {
            all[i] = i;
        }
        NinePence full = thirtyToLookAt();
        due("one(-1, 0, false)", full.one(-1, 0, false), 31);
        lookDue(full, false, all);
        lookDue(full, true, all);
        lookDue(new NinePence(), false);
        // Missed entries and carries are nothing to look at.
        lookDue(Check.told("left 10 0 0 0", PairEdges.only(0, NONE)), false);
        // 2 by two figures and 1 by one are alike: the least entry, whichever that is.
        NinePence x = Check.told("left 10 0 0 0;right 1 0 1 0;hand 0 2 2");
        NinePence y = Check.told("right 1 0 1 0;left 10 0 0 0;hand 0 2 2");
        lookDue(x, false, 0, 1);
        lookDue(y, false, 0, 1);
        // A little more, and a little less.
        Check.done(x, "hand 0 2 3");
        Check.done(y, "hand 0 2 3");
        lookDue(x, false, 0, 1);
        lookDue(y, false, 1, 0);
        Check.done(x, "hand 0 2 1");
        Check.done(y, "hand 0 2 1");
        lookDue(x, false, 1, 0);
        lookDue(y, false, 0, 1);
        // The greatest odds, one apart.
        NinePence z = Check.told("left 21 0 0 0;right 12 0 1 0;hand 0 0 98;hand 1 0 99");
        lookDue(z, false, 1, 0);
        Check.done(z, "hand 0 0 99");
        lookDue(z, false, 0, 1);
        // 99 * 99 by six figures is just as much as 99 * 33 by two.
        NinePence w = Check.told("left 123455 0 0 0;right 13 0 1 0;read 3 5 99;read 5 3 33;hand 0 1 99;hand 1 1 99;carry 0",
            "right 123440 0 2 0", PairEdges.only(2, NONE));
        due("out(-1)", w.out(-1), 50000002);
        lookDue(w, false, 0, 1);
        Check.done(w, "read 5 3 34");
        lookDue(w, false, 1, 0);
        Check.done(w, "read 5 3 32");
        lookDue(w, false, 0, 1);
        lookInAnyOrder();
        // Narrow, if so asked.
        NinePence v = Check.told("left 21 0 0 0;right 12 0 0 5;page 5 right 21");
        lookDue(v, false, 0, 1);
        lookDue(v, true, 1);
        Check.done(v, "page 0 left 1");
        lookDue(v, true);
        lookDue(v, false, 0, 1);
    }

    // Four turns, each of which alone explains out, weigh 1 to 4 in any order.
    private void lookInAnyOrder() {
        NinePence x = Check.told("left 21 0 0 0;right 12 0 1 0;left 21 1 2 0;right 12 1 3 0;right 9 0 0 0");
        due("out(-1)", x.out(-1), 50000009);
        for (int code = 0; code < 256; code++) {
            int[] weights = {code & 3, code >> 2 & 3, code >> 4 & 3, code >> 6 & 3};
            int[] order = new int[4];
            int seen = 0;
            for (int i = 0; i < 4; i++) {
                int place = 0;
                for (int other = 0; other < 4; other++) {
                    place += weights[other] > weights[i] || weights[other] == weights[i] && other < i ? 1 : 0;
                }
                order[place] = i;
                seen |= 1 << weights[i];
            }
            if (seen == 15) {
                Check.done(x, "hand 0 0 " + (weights[0] + 1) + ";hand 1 0 " + (weights[1] + 1) + ";hand 2 0 " + (weights[2] + 1)
                    + ";hand 3 0 " + (weights[3] + 1));
                lookDue(x, false, order);
                // 4 * 2, 3 * 4, 2 * 6 and 1 * 8 by 10, each time anew.
                meanDue(x, false, 4, 1);
            }
        }
    }

    private void mean() {
        edges.of("MEAN: for each WEIGHT (of these) the figures of ENTRIES looked at till then, with its own, together,"
            + " by all these WEIGHTS.");
        // 2 * (1 + .. + 30) by 30.
        meanDue(thirtyToLookAt(), false, 31, 1);
        meanDue(thirtyToLookAt(), true, 31, 1);
        // 2 by two figures, 1 by one: 2 * 2 + 1 * 3 by 3, or 1 * 1 + 2 * 3 by 3.
        meanDue(Check.told("left 10 0 0 0;right 1 0 1 0;hand 0 2 2"), false, 7, 3);
        meanDue(Check.told("right 1 0 1 0;left 10 0 0 0;hand 0 2 2"), false, 7, 3);
        // What is missed does not weigh in it.
        meanDue(Check.told("left 10 0 0 0;right 1 0 1 0;hand 0 2 2;missed 99"), false, 7, 3);
        // One alone: its own figures, whatever it weighs.
        for (int odds : new int[] {1, 2, 99}) {
            meanDue(Check.told("left 21 0 0 0;right 12 0 1 0;hand 0 0 " + odds, PairEdges.only(1, NONE)), false, 2, 1);
            meanDue(Check.told("left 654321 0 0 0;right 645321 0 1 0;hand 0 0 " + odds, PairEdges.only(1, NONE)), false, 6, 1);
        }
        // The greatest weights: 9801 at six figures each, first 6 and then 12.
        NinePence x = Check.told("left 999995 0 0 0;left 999985 1 0 0;right 999983 0 1 0;right 999995 0 1 0;hand 0 1 99;read 3 5 99",
            PairEdges.only(1, NONE));
        due("out(-1)", x.out(-1), 50000002);
        meanDue(x, false, 9, 1);
        NinePence narrow = Check.told("left 21 0 0 0;right 12 0 0 5;page 5 right 21");
        meanDue(narrow, false, 3, 1);
        meanDue(narrow, true, 2, 1);
    }

    private void lowestTerms() {
        edges.of("Parts are told in lowest terms: above (part 0), below (1).");
        // 9801 each of three: the third part.
        NinePence x = Check.told("left 15 0 0 0;left 25 1 0 0;left 35 2 0 0;right 73 0 1 0;hand 0 1 99;read 3 5 99;missed 0",
            PairEdges.only(1, NONE));
        due("one(-1, 0, false)", x.one(-1, 0, false), 3);
        for (int i = 0; i < 3; i++) {
            due("chance(" + i + ", 0)", x.chance(i, 0), 1);
            due("chance(" + i + ", 1)", x.chance(i, 1), 3);
        }
        // All and nothing: 1 by 1, 0 by 1; a whole number: 4 by 1.
        due("whose(0, 0)", x.whose(0, 0), 1);
        due("whose(0, 1)", x.whose(0, 1), 1);
        due("whose(3, 0)", x.whose(3, 0), 0);
        due("whose(3, 1)", x.whose(3, 1), 1);
        meanDue(x, false, 4, 1);
        // Parts that have nothing in common stay as they are.
        NinePence y = Check.told("left 21 0 0 0;right 12 0 1 0;hand 0 0 98;hand 1 0 99;missed 0");
        due("chance(0, 0)", y.chance(0, 0), 98);
        due("chance(0, 1)", y.chance(0, 1), 197);
        due("whose(1, 0)", y.whose(1, 0), 99);
        due("whose(1, 1)", y.whose(1, 1), 197);
        meanDue(y, false, 590, 197);
    }

    private void promiseLook() {
        edges.of("LOOK: how many ENTRIES (i -1), or the i-th; NONE: there are not so many. OUTSIDE: i below -1.");
        NinePence x = Check.told("left 21 0 0 0;right 12 0 0 5;page 5 right 21");
        lookDue(x, false, 0, 1);
        lookDue(x, true, 1);
        for (int i : new int[] {2, 3, 30, MOST}) {
            due("look(" + i + ", false)", x.look(i, false), NONE);
            due("look(" + i + ", true)", x.look(i, true), NONE);
            due("look(" + i + ", false) of none", new NinePence().look(i, false), NONE);
        }
        for (int i : new int[] {LEAST, -3, -2}) {
            due("look(" + i + ", false)", x.look(i, false), OUTSIDE);
            due("look(" + i + ", true)", x.look(i, true), OUTSIDE);
            due("look(" + i + ", true) of none", new NinePence().look(i, true), OUTSIDE);
        }
        due("look(-1, true) of none", new NinePence().look(-1, true), 0);
    }

    private void promiseMean() {
        edges.of("MEAN. OUTSIDE; NOT: there is none to look at.");
        NinePence x = Check.told("left 21 0 0 0;right 12 0 0 5;page 5 right 1");
        meanDue(x, false, 3, 1);
        due("mean(true, 0)", x.mean(true, 0), NOT);
        due("mean(true, 1)", x.mean(true, 1), NOT);
        for (int part : new int[] {LEAST, -1, 2, MOST}) {
            due("mean(false, " + part + ")", x.mean(false, part), OUTSIDE);
            due("mean(true, " + part + ")", x.mean(true, part), OUTSIDE);
            due("mean(true, " + part + ") of none", new NinePence().mean(true, part), OUTSIDE);
        }
        due("mean(false, 0) of none", new NinePence().mean(false, 0), NOT);
        due("mean(false, 1) of what is missed alone", Check.told("left 7 0 0 0").mean(false, 1), NOT);
        due("mean(false, 0) with out 0", book(5, -5).mean(false, 0), NOT);
    }

    private void promiseJudge() {
        edges.of("The least KIND (0 .. 4) of which it would be a SLIP that an ENTRY SHOULD have that SIDE and SUM"
            + " (0: it should not stand; its own SIDE told),");
        NinePence x = Check.told("left 120 0 0 0;left 120 0 1 0;right 120 0 0 0;left 120 1 0 0");
        for (int entry = 0; entry < 4; entry++) {
            int own = x.entry(entry, 0);
            due("judge of 120 for 210", x.judge(entry, own, 210), TURN);
            due("judge of 120 for 102", x.judge(entry, own, 102), TURN);
            due("judge of 120 for 129", x.judge(entry, own, 129), FIGURE);
            due("judge of 120 for 920", x.judge(entry, own, 920), FIGURE);
            due("judge of 120 for 12", x.judge(entry, own, 12), NOUGHT);
            due("judge of 120 for 1200", x.judge(entry, own, 1200), NOUGHT);
            due("judge of 120 for the other side", x.judge(entry, 1 - own, 120), SIDE);
            due("judge of 120 for itself", x.judge(entry, own, 120), NONE);
            for (int sum : new int[] {1, 20, 21, 130, 201, 219, 12000, 999999}) {
                due("judge of 120 for " + sum, x.judge(entry, own, sum), sum == 130 ? FIGURE : NONE);
            }
            for (int sum : new int[] {210, 129, 12, 1200, 0, 1}) {
                due("judge of 120 for " + sum + " on the other side", x.judge(entry, 1 - own, sum), NONE);
            }
            due("judge of 120, not to stand", x.judge(entry, own, 0), entry == 1 ? TWICE : NONE);
        }
        NinePence y = Check.told("left 10 0 0 0;left 9 0 0 0;left 999999 0 0 0;left 100000 0 0 0");
        due("judge of 10 for 1", y.judge(0, 0, 1), NOUGHT);
        due("judge of 10 for 11", y.judge(0, 0, 11), FIGURE);
        due("judge of 10 for 0", y.judge(0, 0, 0), NONE);
        due("judge of 9 for 1", y.judge(1, 0, 1), FIGURE);
        due("judge of 9 for 10", y.judge(1, 0, 10), NONE);
        due("judge of 9 for 0", y.judge(1, 0, 0), NONE);
        due("judge of 999999 for 99999", y.judge(2, 0, 99999), NONE);
        due("judge of 999999 for 199999", y.judge(2, 0, 199999), FIGURE);
        due("judge of 100000 for 10000", y.judge(3, 0, 10000), NOUGHT);
        due("judge of 100000 for 999999", y.judge(3, 0, 999999), NONE);
        due("judge of 100000 for 1", y.judge(3, 0, 1), NONE);
    }

    private void judgeWithoutWeight() {
        edges.of("WEIGHT, READ or not; NONE: of none. UNKNOWN; OUTSIDE: SIDE, SUM (0 .. 999999).");
        NinePence x = Check.told("left 120 0 0 0;left 120 0 0 0", PairEdges.only(0, NONE));
        int[] sums = {210, 129, 12, 120, 0};
        for (int kind = 0; kind < 5; kind++) {
            due("judge, without weight, of kind " + kind, x.judge(1, kind == SIDE ? 1 : 0, sums[kind]), kind);
        }
        due("judge with out 0, too", book(12, -12).judge(0, 0, 21), TURN);
        for (int entry : new int[] {LEAST, -1, 2, 30, MOST}) {
            for (int side : new int[] {-1, 0, 1, 2}) {
                for (int sum : new int[] {-1, 0, 1, 999999, 1000000}) {
                    due("judge(" + entry + ", " + side + ", " + sum + ")", x.judge(entry, side, sum), UNKNOWN);
                }
            }
        }
        for (int side : new int[] {LEAST, -1, 2, 3, MOST}) {
            for (int sum : new int[] {-1, 0, 1, 120, 999999, 1000000}) {
                due("judge(0, " + side + ", " + sum + ")", x.judge(0, side, sum), OUTSIDE);
            }
        }
        for (int sum : new int[] {LEAST, -120, -1, 1000000, MOST}) {
            due("judge(0, 0, " + sum + ")", x.judge(0, 0, sum), OUTSIDE);
            due("judge(0, 1, " + sum + ")", x.judge(0, 1, sum), OUTSIDE);
        }
        due("judge(0, 0, 999999)", x.judge(0, 0, 999999), NONE);
        due("judge(0, 0, 0)", x.judge(0, 0, 0), NONE);
        due("judge of nothing", new NinePence().judge(0, 0, 0), UNKNOWN);
    }
}
