/** Promises 1 to 12 and 26: the book, its texts, and what is counted. Each due answer was worked out by hand. */
public final class BookTest {
    private static final int LIFT = 50000000;
    private static final int LEAST = Integer.MIN_VALUE, MOST = Integer.MAX_VALUE;
    private static final Check CHECK = new Check("BookTest");

    public static void main(String[] args) {
        newObject();
        write();
        writeIsFull();
        erase();
        faultByWords();
        faultByNumbers();
        faultBySigns();
        faultByLines();
        book();
        bookKeepsWhatStood();
        bookPassesOverThirtyFirst();
        entry();
        out();
        off();
        odds();
        learn();
        mend();
        strike();
        count();
        CHECK.finish();
    }

    private static void due(String call, long got, long want) {
        CHECK.due(call, got, want);
    }

    private static void faultDue(String text, int want) {
        NinePence x = new NinePence();
        Check.tell(x, text);
        due("fault of '" + text + "'", x.fault(), want);
        due("fault again of '" + text + "'", x.fault(), want);
        due("book of '" + text + "'", x.book() == NinePence.NOT ? 1 : 0, want == NinePence.NONE ? 0 : 1);
    }

    // 1
    private static void newObject() {
        NinePence x = new NinePence();
        for (int page = -1; page < 6; page++) {
            due("1 out(" + page + ")", x.out(page), LIFT);
        }
        for (int page = 0; page < 6; page++) {
            due("1 off(" + page + ")", x.off(page), NinePence.NONE);
        }
        for (int hand = 0; hand < 4; hand++) {
            for (int kind = 0; kind < 5; kind++) {
                due("1 odds(" + hand + ", " + kind + ")", x.odds(hand, kind), 1);
            }
        }
        int[] counts = {0, 0, 0, 1, 1, 1};
        for (int what = 0; what < 6; what++) {
            due("1 count(" + what + ")", x.count(what), counts[what]);
        }
        due("1 fault()", x.fault(), 0);
        due("1 erase()", x.erase(), 0);
        due("1 one(-1, 0, false)", x.one(-1, 0, false), 0);
        due("1 one(-1, 0, true)", x.one(-1, 0, true), 0);
        due("1 hide(0)", x.hide(0), 0);
        due("1 two(1)", x.two(1), 0);
        due("1 constants", NinePence.NONE * 10000 + NinePence.UNKNOWN * 1000 + NinePence.OUTSIDE * 100
            + NinePence.NOT * 10 + NinePence.FULL, -12345);
        new NinePence().write(1, 1);
        due("1 objects share nothing", x.count(1), 0);
    }

    // 2
    private static void write() {
        NinePence x = new NinePence();
        due("2 write missed 7", x.write(0x372064657373696dL, 8), 8);
        due("2 count(1)", x.count(1), 8);
        due("2 book()", x.book(), 1);
        due("2 byte 0 came first", x.count(3), 7);
        // Only the lowest n bytes count.
        due("2 write(c)", x.write(0xffffffffffffff63L, 1), 1);
        due("2 write(arr)", x.write(0x7272617272726172L & 0xffffffL | 0x5500000000000000L, 3), 4);
        x.erase();
        due("2 write carry", x.write(0x7979797972726163L, 5), 5);
        due("2 write  42", x.write(0x323420L, 3), 8);
        due("2 book() carry 42", x.book(), 1);
        due("2 carry", x.count(4), 42);
        for (int n : new int[] {0, -1, 9, LEAST, MOST}) {
            due("2 write(1, " + n + ")", x.write(1, n), NinePence.OUTSIDE);
        }
        due("2 nothing written", x.count(1), 0);
        // The highest byte of a negative number is a byte like any other.
        Check.tell(x, "carry 1");
        due("2 write(-1, 8)", x.write(-1L, 8), 15);
        due("2 byte 255 stands", x.fault(), 7);
    }

    private static void writeIsFull() {
        NinePence x = new NinePence();
        for (int i = 1; i <= 24; i++) {
            due("2 write " + i, x.write(0x2020202020202020L, 8), 8 * i);
        }
        due("2 write to 199", x.write(0x20202020202020L, 7), 199);
        due("2 two more are too many", x.write(0x2020L, 2), NinePence.FULL);
        due("2 nothing changed", x.count(1), 199);
        due("2 write to 200", x.write(0x20L, 1), 200);
        due("2 one more is too many", x.write(0x20L, 1), NinePence.FULL);
        due("2 OUTSIDE ahead of FULL", x.write(0x20L, 9), NinePence.OUTSIDE);
        due("2 OUTSIDE ahead of FULL, 0", x.write(0x20L, 0), NinePence.OUTSIDE);
        due("4 blanks end too soon", x.fault(), 200);
        due("3 erase()", x.erase(), 200);
        due("2 write once more", x.write(0x20L, 1), 1);
    }

    // 3
    private static void erase() {
        NinePence x = new NinePence();
        Check.tell(x, "missed 5");
        due("3 erase()", x.erase(), 8);
        due("3 count(1)", x.count(1), 0);
        due("3 erase() again", x.erase(), 0);
        due("3 nothing was done", x.count(3), 1);
        due("3 fault of nothing", x.fault(), 0);
        Check.tell(x, "missed 6");
        due("3 nothing is left of it", x.book(), 1);
        due("3 missed", x.count(3), 6);
    }

    // 4
    private static void faultByWords() {
        faultDue("left 1 0 0 0", NinePence.NONE);
        faultDue("right 1 0 0 0", NinePence.NONE);
        faultDue("hand 0 0 0", NinePence.NONE);
        faultDue("read 0 1 0", NinePence.NONE);
        faultDue("missed 0", NinePence.NONE);
        faultDue("carry 0", NinePence.NONE);
        faultDue("second 0", NinePence.NONE);
        faultDue("page 0 left 0", NinePence.NONE);
        faultDue("page 0 right 0", NinePence.NONE);
        faultDue("page 0 free", NinePence.NONE);
        faultDue("free", 0);
        faultDue("lef 1 0 0 0", 0);
        faultDue(" lefty 1 0 0 0", 1);
        faultDue("leftz 1 0 0 0", 0);
        faultDue("zleft 1 0 0 0", 0);
        faultDue("aleft 1 0 0 0", 0);
        faultDue("lefta 1 0 0 0", 0);
        for (String word : new String[] {"left 1 0 0 0", "right 1 0 0 0", "hand 0 0 0", "read 0 1 0", "missed 0", "carry 0",
            "second 0", "page 0 free"}) {
            faultDue("x" + word.substring(1), 0);
        }
        faultDue("page 0 tree", 7);
        faultDue("pages 0 free", 0);
        faultDue("Left 1 0 0 0", 0);
        faultDue("left left 1 0 0 0", 5);
        faultDue("left 1 0 0 0 left 2 0 0 0", 13);
        faultDue("page free", 5);
        faultDue("page 0 freeleft 0", 7);
        faultDue("page 0 page", 7);
        faultDue("page 0 hand 0", 7);
        faultDue("page 0 free left 0", 12);
        faultDue("page 0 left free", 12);
        faultDue("page 0 left 0 free", 14);
        faultDue("missed carry 1", 7);
        faultDue("missed1carry 1", 7);
        for (String tooSoon : new String[] {"left", "left 1", "left 1 0", "left 1 0 0", "right", "hand", "hand 0", "hand 0 0",
            "read", "read 0", "read 0 1", "missed", "carry", "second", "page", "page 0", "page 0 left", "page 5 right"}) {
            faultDue(tooSoon, tooSoon.length());
            faultDue(tooSoon + "  ", tooSoon.length() + 2);
            faultDue("  " + tooSoon + " ;", tooSoon.length() + 3);
        }
    }

    private static void faultByNumbers() {
        faultDue("left 0 0 0 0", 5);
        faultDue("left 000000 0 0 0", 5);
        faultDue("left 000001 000007 000003 000005", NinePence.NONE);
        faultDue("left 0000001 0 0 0", 5);
        faultDue("left 999999 7 3 5", NinePence.NONE);
        faultDue("left 1000000 7 3 5", 5);
        faultDue("left 1 8 0 0", 7);
        faultDue("left 1 0 4 0", 9);
        faultDue("left 1 0 0 6", 11);
        faultDue("left 1 0 0 0000005", 11);
        faultDue("right 0 0 0 0", 6);
        faultDue("right 1 8 0 0", 8);
        faultDue("right 1 0 4 0", 10);
        faultDue("right 1 0 0 6", 12);
        faultDue("right 99999999999999999999 0 0 0", 6);
        faultDue("hand 3 4 99", NinePence.NONE);
        faultDue("hand 4 0 0", 5);
        faultDue("hand 0 5 0", 7);
        faultDue("hand 0 0 100", 9);
        faultDue("read 9 8 99", NinePence.NONE);
        faultDue("read 0 9 99", NinePence.NONE);
        faultDue("read 10 1 0", 5);
        faultDue("read 1 10 0", 7);
        faultDue("read 1 2 100", 9);
        faultDue("read 4 4 1", 7);
        faultDue("read 4 04 1", 7);
        faultDue("read 0 0 1", 7);
        faultDue("missed 99", NinePence.NONE);
        faultDue("missed 100", 7);
        faultDue("carry 99", NinePence.NONE);
        faultDue("carry 100", 6);
        faultDue("second 99", NinePence.NONE);
        faultDue("second 100", 7);
        faultDue("page 5 left 999999", NinePence.NONE);
        faultDue("page 6 left 0", 5);
        faultDue("page 5 left 1000000", 12);
        faultDue("page 5 right 1000000", 13);
        faultDue("left 1 0 0 0 0", 13);
        faultDue("missed 1 1", 9);
        faultDue("7", 0);
    }

    private static void faultBySigns() {
        faultDue("left1 0 0 0", NinePence.NONE);
        faultDue("page0left7;page1free", NinePence.NONE);
        faultDue("   left   1   0   0   0   ;   missed   7   ", NinePence.NONE);
        faultDue("left 1,0 0 0", 6);
        faultDue("left -1 0 0 0", 5);
        faultDue("left\t1 0 0 0", 4);
        faultDue("missed 7\n", 8);
        faultDue("missed 7.", 8);
        faultDue("missed 7\u00ff", 8);
        faultDue("missed 7\u0000", 8);
        faultDue("\u00e9", 0);
        faultDue("missed `", 7);
        faultDue("missed {", 7);
        faultDue("missed /", 7);
        faultDue("missed :", 7);
        faultDue("missed 7:", 8);
        faultDue("missed 7/", 8);
        faultDue("miss ed 7", 0);
        faultDue("missed@7", 6);
        faultDue("missed[7", 6);
    }

    private static void faultByLines() {
        faultDue("", 0);
        faultDue("   ", 3);
        faultDue(";", 0);
        faultDue(" ;missed 1", 1);
        faultDue("missed 1;", 9);
        faultDue("missed 1; ", 10);
        faultDue("missed 1;;missed 1", 9);
        faultDue("missed 1 ; ; missed 1", 11);
        faultDue("left;missed 1", 4);
        faultDue("missed 1;carry 2;second 3", NinePence.NONE);
        faultDue("missed 1;carry 200;second 300", 15);
        StringBuilder ten = new StringBuilder("carry 0");
        for (int i = 1; i < 10; i++) {
            ten.append(";carry ").append(i);
        }
        faultDue(ten.toString(), NinePence.NONE);
        faultDue(ten + " ", NinePence.NONE);
        faultDue(ten + ";", 79);
        faultDue(ten + " ;carry 1", 80);
        faultDue(ten + " 5", 80);
    }

    // 5
    private static void book() {
        NinePence x = new NinePence();
        due("5 book of nothing", x.book(), NinePence.NOT);
        Check.tell(x, "missed 3;left 70 1 2 3;missed 4;hand 2 3 50;page 3 right 7;second 9");
        due("5 book()", x.book(), 6);
        due("5 THE TEXT is empty then", x.count(1), 0);
        due("5 the later line holds", x.count(3), 4);
        due("5 entries", x.count(0), 1);
        due("5 odds(2, 3)", x.odds(2, 3), 50);
        due("5 off(3)", x.off(3), LIFT + 77);
        due("5 second", x.count(5), 9);
        due("5 book() again", x.book(), NinePence.NOT);
        Check.tell(x, "page 3 free");
        due("5 book() free", x.book(), 1);
        due("5 off(3) free", x.off(3), NinePence.NONE);
        due("5 what was told stays", x.count(3), 4);
        Check.tell(x, "page 3 left 7;page 3 right 0");
        due("5 book() due 0", x.book(), 2);
        due("5 off(3) due 0", x.off(3), LIFT + 70);
    }

    private static void bookKeepsWhatStood() {
        NinePence x = Check.told("missed 3");
        Check.tell(x, "missed 4;left 1 0 0 0;carry 100");
        due("5 book() with a fault", x.book(), NinePence.NOT);
        due("5 THE TEXT stays", x.count(1), 31);
        due("5 no line was done", x.count(3), 3);
        due("5 no entry came", x.count(0), 0);
        due("5 the fault stays", x.fault(), 28);
    }

    private static void bookPassesOverThirtyFirst() {
        NinePence x = new NinePence();
        for (int i = 0; i < 29; i++) {
            Check.tell(x, "left " + (i + 1) + " 0 0 0");
            due("5 book " + i, x.book(), 1);
        }
        Check.tell(x, "missed 50;right 40 1 1 1;right 41 1 1 1;carry 60;left 42 0 0 0");
        due("5 book() of five lines", x.book(), 5);
        due("5 thirty entries", x.count(0), 30);
        due("5 the thirtieth", x.entry(29, 1), 40);
        due("5 no thirty-first", x.entry(30, 1), NinePence.UNKNOWN);
        due("5 the line ahead was done", x.count(3), 50);
        due("5 the line behind was done", x.count(4), 60);
        due("5 out", x.out(-1), LIFT + 29 * 30 / 2 - 40);
        due("12 strike", x.strike(0), 29);
        Check.tell(x, "right 43 0 0 0");
        due("5 there is room again", x.book(), 1);
        due("6 entry(29, 1)", x.entry(29, 1), 43);
    }

    // 6
    private static void entry() {
        NinePence x = Check.told("left 999999 7 3 5;right 1 0 1 2");
        int[] first = {0, 999999, 7, 3, 5};
        int[] next = {1, 1, 0, 1, 2};
        for (int what = 0; what < 5; what++) {
            due("6 entry(0, " + what + ")", x.entry(0, what), first[what]);
            due("6 entry(1, " + what + ")", x.entry(1, what), next[what]);
        }
        for (int entry : new int[] {-1, 2, 30, LEAST, MOST}) {
            due("6 entry(" + entry + ", 0)", x.entry(entry, 0), NinePence.UNKNOWN);
            due("6 UNKNOWN ahead of OUTSIDE", x.entry(entry, 5), NinePence.UNKNOWN);
        }
        for (int what : new int[] {-1, 5, LEAST, MOST}) {
            due("6 entry(0, " + what + ")", x.entry(0, what), NinePence.OUTSIDE);
        }
    }

    // 7
    private static void out() {
        NinePence x = Check.told("left 500 0 0 1;right 20 0 0 1;right 3000 0 0 4;left 7 0 0 0");
        int[] outs = {7, 480, 0, 0, -3000, 0};
        for (int page = 0; page < 6; page++) {
            due("7 out(" + page + ")", x.out(page), LIFT + outs[page]);
        }
        due("7 out(NONE)", x.out(NinePence.NONE), LIFT - 2513);
        for (int page : new int[] {-2, 6, LEAST, MOST}) {
            due("7 out(" + page + ")", x.out(page), NinePence.UNKNOWN);
        }
    }

    // 8
    private static void off() {
        NinePence x = Check.told("left 500 0 0 1;right 20 0 0 1;page 1 left 480;page 2 left 999999;page 3 right 999999;page 4 left 0");
        due("8 off(0)", x.off(0), NinePence.NONE);
        due("8 off(1)", x.off(1), LIFT);
        due("8 off(2)", x.off(2), LIFT - 999999);
        due("8 off(3)", x.off(3), LIFT + 999999);
        due("8 off(4), a due of 0 is a due", x.off(4), LIFT);
        due("8 off(5)", x.off(5), NinePence.NONE);
        for (int page : new int[] {-1, -2, 6, LEAST, MOST}) {
            due("8 off(" + page + ")", x.off(page), NinePence.UNKNOWN);
        }
        Check.tell(x, "page 1 right 480;page 2 free");
        due("8 book()", x.book(), 2);
        due("8 off(1) right", x.off(1), LIFT + 960);
        due("8 off(2) free", x.off(2), NinePence.NONE);
    }

    // 9
    private static void odds() {
        NinePence x = Check.told("hand 0 0 0;hand 3 4 99;hand 1 2 34");
        due("9 odds(0, 0)", x.odds(0, 0), 0);
        due("9 odds(3, 4)", x.odds(3, 4), 99);
        due("9 odds(1, 2)", x.odds(1, 2), 34);
        due("9 odds(2, 1)", x.odds(2, 1), 1);
        due("9 odds(1, 3)", x.odds(1, 3), 1);
        for (int wrong : new int[] {-1, 5, 6, LEAST, MOST}) {
            due("9 odds(0, " + wrong + ")", x.odds(0, wrong), NinePence.UNKNOWN);
            due("9 odds(" + wrong + ", 0)", x.odds(wrong, 0), NinePence.UNKNOWN);
        }
        due("9 odds(4, 0)", x.odds(4, 0), NinePence.UNKNOWN);
    }

    // 10
    private static void learn() {
        NinePence x = Check.told("hand 2 1 98;hand 0 0 0");
        due("10 learn(2, 1)", x.learn(2, 1), 99);
        due("10 learn(2, 1) at most", x.learn(2, 1), 99);
        due("10 odds(2, 1)", x.odds(2, 1), 99);
        due("10 learn(0, 0)", x.learn(0, 0), 1);
        due("10 learn(3, 4)", x.learn(3, 4), 2);
        due("10 learn(3, 4) again", x.learn(3, 4), 3);
        due("10 odds(3, 3)", x.odds(3, 3), 1);
        for (int wrong : new int[] {-1, 5, 6, LEAST, MOST}) {
            due("10 learn(0, " + wrong + ")", x.learn(0, wrong), NinePence.UNKNOWN);
            due("10 learn(" + wrong + ", 0)", x.learn(wrong, 0), NinePence.UNKNOWN);
        }
        due("10 learn(4, 0)", x.learn(4, 0), NinePence.UNKNOWN);
        due("10 odds(0, 0)", x.odds(0, 0), 1);
        // What is learned weighs at once.
        NinePence y = Check.told("left 21 0 1 0;right 12 1 2 0");
        due("10 weight", y.one(0, 4, false), 1);
        y.learn(1, 0);
        due("10 weight then", y.one(0, 4, false), 2);
    }

    // 11
    private static void mend() {
        NinePence x = Check.told("left 500 1 2 3;right 20 4 1 5");
        due("11 mend(0, 1, 30)", x.mend(0, 1, 30), LIFT - 50);
        int[] mended = {1, 30, 1, 2, 3};
        for (int what = 0; what < 5; what++) {
            due("11 entry(0, " + what + ")", x.entry(0, what), mended[what]);
        }
        due("11 entry(1, 1)", x.entry(1, 1), 20);
        due("11 mend(1, 0, 999999)", x.mend(1, 0, 999999), LIFT + 999969);
        due("11 mend(1, 0, 1)", x.mend(1, 0, 1), LIFT - 29);
        for (int sum : new int[] {0, -1, 1000000, LEAST, MOST}) {
            due("11 mend(0, 0, " + sum + ")", x.mend(0, 0, sum), NinePence.OUTSIDE);
        }
        for (int side : new int[] {-1, 2, LEAST, MOST}) {
            due("11 mend(0, " + side + ", 5)", x.mend(0, side, 5), NinePence.OUTSIDE);
        }
        for (int entry : new int[] {-1, 2, LEAST, MOST}) {
            due("11 mend(" + entry + ", 0, 5)", x.mend(entry, 0, 5), NinePence.UNKNOWN);
            due("11 UNKNOWN ahead of OUTSIDE", x.mend(entry, 2, 0), NinePence.UNKNOWN);
        }
        due("11 nothing changed", x.out(-1), LIFT - 29);
    }

    // 12
    private static void strike() {
        NinePence x = Check.told("left 100 0 0 0;left 20 1 1 1;right 3 2 2 2");
        for (int entry : new int[] {-1, 3, LEAST, MOST}) {
            due("12 strike(" + entry + ")", x.strike(entry), NinePence.UNKNOWN);
        }
        due("12 count(0)", x.count(0), 3);
        due("12 strike(1)", x.strike(1), 2);
        due("12 count(0) then", x.count(0), 2);
        due("12 out", x.out(-1), LIFT + 97);
        int[] behind = {1, 3, 2, 2, 2};
        for (int what = 0; what < 5; what++) {
            due("12 entry(1, " + what + ")", x.entry(1, what), behind[what]);
        }
        due("12 entry(2, 0)", x.entry(2, 0), NinePence.UNKNOWN);
        due("12 strike(1) again", x.strike(1), 1);
        due("12 strike(0)", x.strike(0), 0);
        due("12 strike(0) of none", x.strike(0), NinePence.UNKNOWN);
        due("12 out of none", x.out(-1), LIFT);
    }

    // 26
    private static void count() {
        NinePence x = Check.told("left 1 0 0 0;left 2 0 0 0;missed 11;carry 0;second 99");
        x.other(5);
        x.other(5);
        x.other(5);
        Check.tell(x, "some");
        int[] counts = {2, 4, 3, 11, 0, 99};
        for (int what = 0; what < 6; what++) {
            due("26 count(" + what + ")", x.count(what), counts[what]);
        }
        for (int what : new int[] {-1, 6, LEAST, MOST}) {
            due("26 count(" + what + ")", x.count(what), NinePence.OUTSIDE);
        }
    }
}
