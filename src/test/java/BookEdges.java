/** The edges of the terms of the book (1) and of promises 1 to 3, 5 to 12 and 26. */
final class BookEdges {
    private static final int LIFT = 50000000;
    private static final int LEAST = Integer.MIN_VALUE, MOST = Integer.MAX_VALUE;
    private static final int NONE = NinePence.NONE, UNKNOWN = NinePence.UNKNOWN, OUTSIDE = NinePence.OUTSIDE;
    private static final int NOT = NinePence.NOT, FULL = NinePence.FULL;

    private final Sentences edges;

    BookEdges(Sentences edges) {
        this.edges = edges;
    }

    void ask() {
        entriesAreThirty();
        sides();
        sums();
        accountsHandsPages();
        outOfSome();
        dues();
        offBy();
        oddsOfHands();
        reads();
        missedCarrySecond();
        callsAreMany();
        newObject();
        write();
        erase();
        book();
        entry();
        out();
        off();
        odds();
        learn();
        mend();
        strike();
        count();
    }

    private void due(String call, long got, long want) {
        edges.due(call, got, want);
    }

    /** A book of so many entries of one sum, with accounts, hands and pages in turn. */
    static NinePence bookOf(int many, String side, int sum) {
        NinePence x = new NinePence();
        for (int i = 0; i < many; i++) {
            Check.tell(x, side + " " + sum + " " + i % 8 + " " + i % 4 + " " + i % 6);
            x.book();
        }
        return x;
    }

    private void entriesAreThirty() {
        edges.of("ENTRIES are 30 at most, numbered from 0 as they come:");
        NinePence x = new NinePence();
        due("count(0) of none", x.count(0), 0);
        due("entry(0, 1) of none", x.entry(0, 1), UNKNOWN);
        for (int i = 0; i < 30; i++) {
            Check.tell(x, (i % 2 == 0 ? "left " : "right ") + (100 + i) + " 0 0 0");
            due("book()", x.book(), 1);
            due("count(0)", x.count(0), i + 1);
            due("entry(" + i + ", 1)", x.entry(i, 1), 100 + i);
            due("entry(" + (i + 1) + ", 1)", x.entry(i + 1, 1), UNKNOWN);
        }
        due("entry(0, 1) is the first still", x.entry(0, 1), 100);
        Check.tell(x, "left 7 0 0 0");
        due("book() of one more", x.book(), 1);
        due("count(0) of thirty", x.count(0), 30);
        due("entry(29, 1)", x.entry(29, 1), 129);
        due("entry(30, 1)", x.entry(30, 1), UNKNOWN);
    }

    private void sides() {
        edges.of("a SIDE (0 left, 1 right),");
        NinePence x = Check.told("left 5 0 0 0;right 7 0 0 0");
        due("entry(0, 0)", x.entry(0, 0), 0);
        due("entry(1, 0)", x.entry(1, 0), 1);
        due("out(-1)", x.out(-1), LIFT - 2);
        for (int side : new int[] {-1, 2, LEAST, MOST}) {
            due("mend(0, " + side + ", 5)", x.mend(0, side, 5), OUTSIDE);
            due("judge(0, " + side + ", 5)", x.judge(0, side, 5), OUTSIDE);
        }
        due("mend(0, 1, 5)", x.mend(0, 1, 5), LIFT - 12);
        due("mend(1, 0, 7)", x.mend(1, 0, 7), LIFT + 2);
        due("judge(0, 0, 5)", x.judge(0, 0, 5), 3);
        due("judge(0, 1, 5)", x.judge(0, 1, 5), NONE);
    }

    private void sums() {
        edges.of("a SUM (1 ..");
        edges.faultDue("left 1 0 0 0", NONE);
        edges.faultDue("left 0 0 0 0", 5);
        NinePence x = Check.told("left 8 0 0 0");
        due("mend(0, 0, 1)", x.mend(0, 0, 1), LIFT + 1);
        due("mend(0, 0, 0)", x.mend(0, 0, 0), OUTSIDE);
        due("mend(0, 0, -1)", x.mend(0, 0, -1), OUTSIDE);
        due("other(1)", x.other(1), 1);
        due("other(0)", x.other(0), OUTSIDE);
        edges.of("999999 pence, figures by tens, none ahead of it 0),");
        edges.faultDue("right 999999 0 0 0", NONE);
        edges.faultDue("right 1000000 0 0 0", 6);
        due("mend(0, 0, 999999)", x.mend(0, 0, 999999), LIFT + 999999);
        due("mend(0, 0, 1000000)", x.mend(0, 0, 1000000), OUTSIDE);
        due("other(999999)", x.other(999999), 2);
        due("other(1000000)", x.other(1000000), OUTSIDE);
        // How many figures a sum has: the mean of the only entry to look at, its side told wrongly.
        int[] sums = {1, 9, 10, 99, 100, 999, 1000, 9999, 10000, 99999, 100000, 499999};
        int[] many = {1, 1, 2, 2, 3, 3, 4, 4, 5, 5, 6, 6};
        for (int i = 0; i < sums.length; i++) {
            NinePence y = Check.told("left " + sums[i] + " 0 0 0;left " + sums[i] + " 1 1 0;hand 1 3 0;hand 0 0 0;hand 0 2 0");
            due("entries to look at with " + sums[i], y.look(-1, false), 1);
            due("mean of " + sums[i], y.mean(false, 0) * 10 + y.mean(false, 1), many[i] * 10 + 1);
        }
        // Noughts told ahead of a sum are none of its figures.
        NinePence z = Check.told("left 000120 0 0 0");
        due("entry(0, 1) of 000120", z.entry(0, 1), 120);
        due("judge of 120 for 210", z.judge(0, 0, 210), 0);
        due("judge of 120 for 1200", z.judge(0, 0, 1200), 2);
        due("judge of 120 for 1120", z.judge(0, 0, 1120), NONE);
    }

    private void accountsHandsPages() {
        edges.of("an ACCOUNT (0 .. 7), a HAND (0 .. 3), a PAGE (0 .. 5).");
        for (int account = 0; account < 8; account++) {
            due("account", Check.told("left 1 " + account + " 0 0").entry(0, 2), account);
        }
        for (int hand = 0; hand < 4; hand++) {
            NinePence x = Check.told("left 1 0 " + hand + " 0");
            due("hand", x.entry(0, 3), hand);
            due("odds(" + hand + ", 0)", x.odds(hand, 0), 1);
        }
        for (int page = 0; page < 6; page++) {
            NinePence x = Check.told("left 1 0 0 " + page);
            due("page", x.entry(0, 4), page);
            due("out(" + page + ")", x.out(page), LIFT + 1);
        }
        edges.faultDue("left 1 8 0 0", 7);
        edges.faultDue("left 1 0 4 0", 9);
        edges.faultDue("left 1 0 0 6", 11);
    }

    private void outOfSome() {
        edges.of("OUT of some is what stands left together, less what stands right.");
        NinePence none = new NinePence();
        NinePence left = bookOf(30, "left", 999999);
        NinePence right = bookOf(30, "right", 999999);
        due("out(-1) of none", none.out(-1), LIFT);
        due("out(-1) all left", left.out(-1), LIFT + 29999970);
        due("out(-1) all right", right.out(-1), LIFT - 29999970);
        for (int page = 0; page < 6; page++) {
            due("out(" + page + ") of none", none.out(page), LIFT);
            due("out(" + page + ") all left", left.out(page), LIFT + 4999995);
            due("out(" + page + ") all right", right.out(page), LIFT - 4999995);
        }
        NinePence x = Check.told("left 999999 0 0 2;right 999999 0 0 3");
        due("out(-1) even", x.out(-1), LIFT);
        due("out(2)", x.out(2), LIFT + 999999);
        due("out(3)", x.out(3), LIFT - 999999);
    }

    private void dues() {
        edges.of("A PAGE may have a DUE: what OUT of its ENTRIES should be (none at first).");
        NinePence x = new NinePence();
        for (int page = 0; page < 6; page++) {
            due("off(" + page + ") at first", x.off(page), NONE);
        }
        // A due may be told of a page without entries, and of the last page.
        Check.tell(x, "page 5 left 0");
        due("book()", x.book(), 1);
        due("off(5)", x.off(5), LIFT);
        due("off(4)", x.off(4), NONE);
        due("off(0)", x.off(0), NONE);
        Check.tell(x, "left 12 0 0 5;left 5 0 0 4");
        due("book()", x.book(), 2);
        due("off(5) of its own entries", x.off(5), LIFT + 12);
    }

    private void offBy() {
        edges.of("It is OFF by its OUT less its DUE.");
        NinePence x = Check.told("left 30 0 0 0;right 30 0 0 1;page 0 left 30;page 1 left 30;page 2 right 30;page 3 left 30");
        due("off(0)", x.off(0), LIFT);
        due("off(1)", x.off(1), LIFT - 60);
        due("off(2)", x.off(2), LIFT + 30);
        due("off(3)", x.off(3), LIFT - 30);
        // As far off as a page can be: thirty entries on one side, the due on the other.
        for (int way = 0; way < 2; way++) {
            NinePence y = new NinePence();
            for (int i = 0; i < 30; i++) {
                Check.tell(y, (way == 0 ? "left" : "right") + " 999999 0 0 3");
                y.book();
            }
            Check.tell(y, "page 3 " + (way == 0 ? "right" : "left") + " 999999");
            due("book()", y.book(), 1);
            due("off(3)", y.off(3), way == 0 ? LIFT + 30999969 : LIFT - 30999969);
        }
    }

    private void oddsOfHands() {
        edges.of("ODDS: of a HAND for KINDS 0 .. 4 (0 .. 99; 1 each at first);");
        NinePence x = new NinePence();
        for (int hand = 0; hand < 4; hand++) {
            for (int kind = 0; kind < 5; kind++) {
                due("odds(" + hand + ", " + kind + ") at first", x.odds(hand, kind), 1);
                NinePence y = Check.told("hand " + hand + " " + kind + " 99");
                due("odds(" + hand + ", " + kind + ") told 99", y.odds(hand, kind), 99);
                due("odds of another hand", y.odds((hand + 1) % 4, kind), 1);
                due("odds for another kind", y.odds(hand, (kind + 1) % 5), 1);
                Check.tell(y, "hand " + hand + " " + kind + " 0");
                due("book()", y.book(), 1);
                due("odds(" + hand + ", " + kind + ") told 0", y.odds(hand, kind), 0);
            }
        }
        edges.faultDue("hand 0 5 1", 7);
        edges.faultDue("hand 0 0 100", 9);
    }

    private void reads() {
        edges.of("READ: how often a figure X is written as Y (0 .. 99; 0 each at first);");
        for (int x = 0; x < 10; x++) {
            for (int y = 0; y < 10; y++) {
                if (x != y) {
                    readDue(x, y);
                }
            }
        }
        edges.faultDue("read 0 1 100", 9);
    }

    // 1Y stands where 1X should, and 1X is right on the other side.
    private void readDue(int x, int y) {
        NinePence book = Check.told("left 1" + y + " 0 0 0;right 1" + x + " 0 0 0;hand 0 0 0;hand 0 2 0");
        due("figures at first, " + x + " as " + y, book.ofKind(1), 0);
        for (int weight : new int[] {99, 1, 0}) {
            Check.tell(book, "read " + x + " " + y + " " + weight);
            due("book()", book.book(), 1);
            due("figures, " + x + " as " + y + ", " + weight, book.ofKind(1), weight == 0 ? 0 : 1);
            if (weight > 0) {
                due("kind", book.one(0, 0, false), 1);
                due("place", book.one(0, 1, false), 0);
                due("should", book.one(0, 2, false), 10 + x);
                due("weight", book.one(0, 4, false), weight);
            }
        }
    }

    private void missedCarrySecond() {
        edges.of("MISSED, CARRY, SECOND (0 .. 99; 1 each at first).");
        String[] words = {"missed", "carry", "second"};
        for (int i = 0; i < 3; i++) {
            due(words[i] + " at first", new NinePence().count(3 + i), 1);
            for (int weight : new int[] {0, 1, 99}) {
                NinePence x = Check.told(words[i] + " 50", words[i] + " " + weight);
                for (int what = 3; what < 6; what++) {
                    due("count(" + what + ") behind " + words[i] + " " + weight, x.count(what), what == 3 + i ? weight : 1);
                }
            }
            edges.faultDue(words[i] + " 100", words[i].length() + 1);
        }
    }

    private void callsAreMany() {
        edges.of("An object is used for at most 512 calls after it has been made; what later calls answer is free.");
        NinePence x = new NinePence();
        x.write(0x3132207466656cL, 7);
        x.write(0x302030203020L, 6);
        x.book();
        x.write(0x3231207468676972L, 8);
        x.write(0x302030203020L, 6);
        x.book();
        // Behind 6 calls 505 more that change and change back; then the 512th asks.
        for (int i = 0; i < 505; i++) {
            x.mend(0, 0, i % 2 == 0 ? 21 : 999 - i % 3);
        }
        due("the 512th call", x.one(-1, 0, false), 3);
        NinePence y = Check.told("left 21 0 0 0;right 12 0 0 0");
        for (int i = 0; i < 500; i++) {
            y.learn(0, 0);
        }
        due("a later call of 512", y.one(0, 4, false), 99);
    }

    private void newObject() {
        edges.of("An empty book.");
        NinePence x = new NinePence();
        int[] counts = {0, 0, 0, 1, 1, 1, OUTSIDE};
        for (int what = 0; what < counts.length; what++) {
            due("count(" + what + ")", x.count(what), counts[what]);
        }
        due("fault()", x.fault(), 0);
        due("erase()", x.erase(), 0);
        due("book()", x.book(), NOT);
        due("out(-1)", x.out(-1), LIFT);
        due("signs()", x.signs(), NOT);
        due("strike(0)", x.strike(0), UNKNOWN);
        due("mend(0, 0, 1)", x.mend(0, 0, 1), UNKNOWN);
        due("judge(0, 0, 1)", x.judge(0, 0, 1), UNKNOWN);
        for (int i = 0; i < 2; i++) {
            due("one(-1, 0, ..)", x.one(-1, 0, i == 1), 0);
            due("one(0, 0, ..)", x.one(0, 0, i == 1), NONE);
            due("look(-1, ..)", x.look(-1, i == 1), 0);
            due("look(0, ..)", x.look(0, i == 1), NONE);
            due("mean(.., 0)", x.mean(i == 1, 0), NOT);
            due("pair(.., 0)", x.pair(i == 1, 0), NONE);
            due("two(" + i + ")", x.two(i), 0);
            due("hide(" + i + ")", x.hide(i), 0);
        }
        due("chance(0, 0)", x.chance(0, 0), UNKNOWN);
        due("whose(0, 0)", x.whose(0, 0), NOT);
        due("match(0, -1)", x.match(0, -1), 0);
        due("match(1, -1)", x.match(1, -1), OUTSIDE);
    }

    private void write() {
        edges.of("n (1 .. 8) bytes more of THE TEXT,");
        for (int n : new int[] {LEAST, -1, 0, 9, 10, MOST}) {
            due("write(.., " + n + ")", new NinePence().write(0x2020202020202020L, n), OUTSIDE);
        }
        NinePence x = new NinePence();
        for (int n = 1, all = 0; n <= 8; n++) {
            all += n;
            due("write(.., " + n + ")", x.write(0x2020202020202020L, n), all);
        }
        edges.of("byte i being bytes >> 8 i & 255: how many it has. OUTSIDE; FULL.");
        for (int i = 0; i < 8; i++) {
            // Every byte is a blank but one, which is 255: the fault is there.
            NinePence y = new NinePence();
            due("write", y.write(0x2020202020202020L | 255L << 8 * i, 8), 8);
            due("byte " + i + " is 255", y.fault(), i);
            // Of fewer bytes it is not one of them.
            NinePence z = new NinePence();
            if (i > 0) {
                due("write of fewer", z.write(0x2020202020202020L | 255L << 8 * i, i), i);
                due("byte " + i + " is none of them", z.fault(), i);
                z.write(0x37646573736964L >> 48, 1);
                due("count(1)", z.count(1), i + 1);
            }
        }
        NinePence least = new NinePence();
        due("write(Long.MIN_VALUE, 8)", least.write(Long.MIN_VALUE, 8), 8);
        due("byte 0 of it is 0", least.fault(), 0);
        for (int had = 192; had <= 200; had++) {
            for (int n = 1; n <= 8; n++) {
                NinePence full = textOf(had);
                boolean fits = had + n <= 200;
                due("write(.., " + n + ") behind " + had, full.write(0x2020202020202020L, n), fits ? had + n : FULL);
                due("count(1) then", full.count(1), fits ? had + n : had);
            }
            due("OUTSIDE ahead of FULL", textOf(had).write(0, 9), OUTSIDE);
        }
    }

    /** An object with a text of so many blanks. */
    private static NinePence textOf(int bytes) {
        NinePence x = new NinePence();
        for (int had = 0; had < bytes; had += 8) {
            x.write(0x2020202020202020L, Math.min(8, bytes - had));
        }
        return x;
    }

    private void erase() {
        edges.of("THE TEXT is empty: how many bytes it had.");
        for (int bytes : new int[] {0, 1, 8, 199, 200}) {
            NinePence x = textOf(bytes);
            due("erase() of " + bytes, x.erase(), bytes);
            due("erase() again", x.erase(), 0);
            due("count(1)", x.count(1), 0);
            due("write", x.write('x', 1), 1);
            due("fault() of what is new", x.fault(), 0);
        }
        NinePence y = Check.told("left 5 0 0 0");
        Check.tell(y, "missed 9");
        due("erase()", y.erase(), 8);
        due("the book stays", y.count(0), 1);
        due("missed stays", y.count(3), 1);
    }

    private void book() {
        edges.of("THE TEXT's LINES are done, and it is empty then: how many there were. NOT: it has a FAULT.");
        StringBuilder text = new StringBuilder();
        for (int lines = 1; lines <= 10; lines++) {
            text.append(lines == 1 ? "" : ";").append("left ").append(lines).append(" 0 0 0");
            NinePence x = new NinePence();
            Check.tell(x, text.toString());
            due("book() of " + lines, x.book(), lines);
            due("count(0)", x.count(0), lines);
            due("count(1)", x.count(1), 0);
            due("book() of nothing", x.book(), NOT);
            due("count(0) then", x.count(0), lines);
            NinePence y = new NinePence();
            Check.tell(y, text + " 0");
            due("book() with a fault in the last line", y.book(), NOT);
            due("count(0) of none", y.count(0), 0);
            due("count(1) as it was", y.count(1), text.length() + 2);
        }
    }

    private void entry() {
        edges.of("Of an ENTRY: SIDE (what 0), SUM (1), ACCOUNT (2), HAND (3), PAGE (4). UNKNOWN; OUTSIDE.");
        NinePence x = Check.told("right 999999 7 3 5;left 1 0 0 0");
        int[][] parts = {{1, 999999, 7, 3, 5}, {0, 1, 0, 0, 0}};
        for (int entry = 0; entry < 2; entry++) {
            for (int what = 0; what < 5; what++) {
                due("entry(" + entry + ", " + what + ")", x.entry(entry, what), parts[entry][what]);
            }
            for (int what : new int[] {LEAST, -1, 5, MOST}) {
                due("entry(" + entry + ", " + what + ")", x.entry(entry, what), OUTSIDE);
            }
        }
        for (int entry : new int[] {LEAST, -1, 2, 29, 30, MOST}) {
            for (int what : new int[] {LEAST, -1, 0, 4, 5, MOST}) {
                due("entry(" + entry + ", " + what + ")", x.entry(entry, what), UNKNOWN);
            }
        }
    }

    private void out() {
        edges.of("OUT of a PAGE, or of all (NONE), and 50000000. UNKNOWN.");
        NinePence x = Check.told("left 3 0 0 0;right 50 0 0 5");
        due("out(-1)", x.out(-1), 49999953);
        due("out(0)", x.out(0), 50000003);
        due("out(5)", x.out(5), 49999950);
        for (int page : new int[] {LEAST, -3, -2, 6, 7, MOST}) {
            due("out(" + page + ")", x.out(page), UNKNOWN);
        }
    }

    private void off() {
        edges.of("OFF, and 50000000; NONE: the PAGE has no DUE. UNKNOWN.");
        NinePence x = Check.told("left 3 0 0 0;right 50 0 0 5;page 0 left 3;page 5 left 1");
        due("off(0)", x.off(0), 50000000);
        due("off(5)", x.off(5), 49999949);
        for (int page = 1; page < 5; page++) {
            due("off(" + page + ")", x.off(page), NONE);
        }
        for (int page : new int[] {LEAST, -2, -1, 6, 7, MOST}) {
            due("off(" + page + ")", x.off(page), UNKNOWN);
        }
    }

    private void odds() {
        edges.of("ODDS of a HAND for a KIND. UNKNOWN: KINDS above 4, too.");
        NinePence x = Check.told("hand 0 0 2;hand 3 4 3");
        due("odds(0, 0)", x.odds(0, 0), 2);
        due("odds(3, 4)", x.odds(3, 4), 3);
        for (int kind : new int[] {LEAST, -1, 5, 6, 7, MOST}) {
            due("odds(0, " + kind + ")", x.odds(0, kind), UNKNOWN);
            due("odds(3, " + kind + ")", x.odds(3, kind), UNKNOWN);
        }
        for (int hand : new int[] {LEAST, -1, 4, 5, MOST}) {
            due("odds(" + hand + ", 0)", x.odds(hand, 0), UNKNOWN);
            due("odds(" + hand + ", 4)", x.odds(hand, 4), UNKNOWN);
            due("odds(" + hand + ", 5)", x.odds(hand, 5), UNKNOWN);
        }
    }

    private void learn() {
        edges.of("The HAND made one more slip of a KIND: ODDS one more (99 at most): that. UNKNOWN likewise.");
        for (int hand = 0; hand < 4; hand++) {
            for (int kind = 0; kind < 5; kind++) {
                NinePence x = Check.told("hand " + hand + " " + kind + " 97");
                due("learn to 98", x.learn(hand, kind), 98);
                due("learn to 99", x.learn(hand, kind), 99);
                due("learn at 99", x.learn(hand, kind), 99);
                due("odds then", x.odds(hand, kind), 99);
                Check.tell(x, "hand " + hand + " " + kind + " 0");
                due("book()", x.book(), 1);
                due("learn from 0", x.learn(hand, kind), 1);
                due("odds of another kind", x.odds(hand, (kind + 1) % 5), 1);
            }
        }
        NinePence y = new NinePence();
        for (int i = 2; i <= 101; i++) {
            due("learn from the first on", y.learn(0, 0), Math.min(i, 99));
        }
        for (int wrong : new int[] {LEAST, -1, 5, 6, MOST}) {
            due("learn(0, " + wrong + ")", y.learn(0, wrong), UNKNOWN);
            due("learn(" + wrong + ", 0)", y.learn(wrong, 0), UNKNOWN);
        }
        due("learn(4, 0)", y.learn(4, 0), UNKNOWN);
        due("learn(3, 5)", y.learn(3, 5), UNKNOWN);
    }

    private void mend() {
        edges.of("An ENTRY has another SIDE and SUM: OUT of all then, and 50000000. UNKNOWN; OUTSIDE.");
        NinePence x = bookOf(30, "left", 999999);
        due("mend(29, 1, 999999)", x.mend(29, 1, 999999), LIFT + 28 * 999999);
        due("mend(0, 0, 1)", x.mend(0, 0, 1), LIFT + 27 * 999999 + 1);
        due("mend(0, 0, 1), as it stands", x.mend(0, 0, 1), LIFT + 27 * 999999 + 1);
        int[] last = {1, 999999, 29 % 8, 29 % 4, 29 % 6};
        for (int what = 0; what < 5; what++) {
            due("entry(29, " + what + ")", x.entry(29, what), last[what]);
        }
        for (int sum : new int[] {LEAST, -1, 0, 1000000, MOST}) {
            due("mend(0, 0, " + sum + ")", x.mend(0, 0, sum), OUTSIDE);
        }
        for (int side : new int[] {LEAST, -1, 2, MOST}) {
            due("mend(0, " + side + ", 1)", x.mend(0, side, 1), OUTSIDE);
            due("mend(0, " + side + ", 0)", x.mend(0, side, 0), OUTSIDE);
        }
        for (int entry : new int[] {LEAST, -1, 30, 31, MOST}) {
            due("mend(" + entry + ", 0, 1)", x.mend(entry, 0, 1), UNKNOWN);
            due("mend(" + entry + ", 2, 0)", x.mend(entry, 2, 0), UNKNOWN);
        }
        due("out(-1) behind the refused", x.out(-1), LIFT + 27 * 999999 + 1);
    }

    private void strike() {
        edges.of("An ENTRY is struck out; those behind it are numbered anew: how many are left. UNKNOWN.");
        for (int struck : new int[] {0, 1, 14, 28, 29}) {
            NinePence x = new NinePence();
            for (int i = 0; i < 30; i++) {
                Check.tell(x, (i % 3 == 0 ? "left " : "right ") + (i + 1) + " " + i % 8 + " " + i % 4 + " " + i % 6);
                x.book();
            }
            due("strike(30)", x.strike(30), UNKNOWN);
            due("strike(" + struck + ")", x.strike(struck), 29);
            for (int i = 0; i < 29; i++) {
                int was = i < struck ? i : i + 1;
                int[] parts = {was % 3 == 0 ? 0 : 1, was + 1, was % 8, was % 4, was % 6};
                for (int what = 0; what < 5; what++) {
                    due("entry(" + i + ", " + what + ")", x.entry(i, what), parts[what]);
                }
            }
            due("entry(29, 1)", x.entry(29, 1), UNKNOWN);
            due("strike(29)", x.strike(29), UNKNOWN);
            due("count(0)", x.count(0), 29);
        }
        NinePence y = Check.told("left 1 0 0 0");
        for (int entry : new int[] {LEAST, -1, 1, MOST}) {
            due("strike(" + entry + ")", y.strike(entry), UNKNOWN);
        }
        strikeTheLast();
        due("strike(0) of the last one", y.strike(0), 0);
        due("strike(0) of none", y.strike(0), UNKNOWN);
        due("count(0) of none", y.count(0), 0);
    }

    // Nothing is left of the last entry that is struck out, though a slip of each kind in it would explain what is out.
    private void strikeTheLast() {
        String[] books = {"left 9 0 1 0;left 21 0 0 0", "left 9 0 1 0;left 19 0 0 0", "left 9 0 1 0;left 10 0 0 0",
            "left 18 0 1 0;left 9 0 0 0", "left 9 0 1 0;left 9 0 0 0"};
        for (int kind = 0; kind < 5; kind++) {
            NinePence x = Check.told(books[kind] + ";read 0 9 1;missed 0;carry 0", PairEdges.only(0, kind), PairEdges.only(1, NONE));
            int out = kind == 3 ? 18 : 9;
            due("strike(1)", x.strike(1), 1);
            due("out(-1)", x.out(-1), LIFT + out);
            due("one(-1, 0, false) without kind " + kind, x.one(-1, 0, false), 0);
            due("look(-1, false)", x.look(-1, false), 0);
            due("two(0)", x.two(0), 0);
            due("hide(0)", x.hide(0), 0);
            due("judge(1, 0, 9)", x.judge(1, 0, 9), UNKNOWN);
            due("match(2, -1)", x.match(2, -1), OUTSIDE);
        }
    }

    private void count() {
        edges.of("0 ENTRIES, 1 bytes of THE TEXT, 2 lines of THE OTHER BOOK, 3 MISSED, 4 CARRY, 5 SECOND. OUTSIDE.");
        NinePence x = bookOf(30, "left", 5);
        Check.tell(x, "missed 99;carry 98;second 97");
        due("book()", x.book(), 3);
        for (int i = 0; i < 12; i++) {
            x.other(5);
        }
        for (int i = 0; i < 25; i++) {
            x.write(0, 8);
        }
        int[] counts = {30, 200, 12, 99, 98, 97};
        for (int what = 0; what < 6; what++) {
            due("count(" + what + ")", x.count(what), counts[what]);
        }
        for (int what : new int[] {LEAST, -1, 6, 7, MOST}) {
            due("count(" + what + ")", x.count(what), OUTSIDE);
        }
    }
}
