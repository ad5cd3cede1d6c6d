/** The edges of THE TEXT, its tokens and its faults, and of promise 4. */
final class TextEdges {
    private static final int LIFT = 50000000;
    private static final int NONE = NinePence.NONE, NOT = NinePence.NOT, FULL = NinePence.FULL;

    // Each line as the document writes it, with the bounds of its numbers, and one such line.
    private static final String[][] LINES = {
        {"left 1..999999 0..7 0..3 0..5", "left 12 3 2 4"},
        {"right 1..999999 0..7 0..3 0..5", "right 12 3 2 4"},
        {"hand 0..3 0..4 0..99", "hand 2 3 40"},
        {"read 0..9 0..9 0..99", "read 5 4 60"},
        {"missed 0..99", "missed 7"},
        {"carry 0..99", "carry 7"},
        {"second 0..99", "second 7"},
        {"page 0..5 left 0..999999", "page 4 left 70"},
        {"page 0..5 right 0..999999", "page 4 right 70"},
        {"page 0..5 free", "page 4 free"}};

    private final Sentences edges;

    TextEdges(Sentences edges) {
        this.edges = edges;
    }

    void ask() {
        bytes();
        linesAreTen();
        emptyText();
        behindTheTenth();
        eachLine();
        points();
        dues();
        bounds();
        letters();
        numbers();
        blanks();
        stays();
        firstFault();
        outOfBounds();
        tooSoon();
        inTheirOrder();
        place();
    }

    private void due(String call, long got, long want) {
        edges.due(call, got, want);
    }

    private static String repeated(String part, int times) {
        return part.repeat(Math.max(times, 0));
    }

    private void bytes() {
        edges.of("THE TEXT is a row of bytes, 200 at most:");
        // Ten lines that fill it just so: the last byte of 200 is a figure that counts.
        String text = repeated("missed 1;", 9) + repeated(" ", 200 - 81 - 8) + "missed 9";
        NinePence x = new NinePence();
        Check.tell(x, text);
        due("count(1)", x.count(1), 200);
        due("write of one more", x.write('9', 1), FULL);
        due("fault()", x.fault(), NONE);
        due("book()", x.book(), 10);
        due("count(3)", x.count(3), 9);
        // Two hundred tokens, too.
        NinePence y = new NinePence();
        Check.tell(y, repeated(";", 200));
        due("count(1)", y.count(1), 200);
        due("fault()", y.fault(), 0);
        due("book()", y.book(), NOT);
        due("erase()", y.erase(), 200);
        edges.faultDue(repeated("a", 200), 0);
        edges.faultDue(repeated("7", 200), 0);
        edges.faultDue("missed " + repeated("0", 193), 7);
        edges.faultDue(repeated(" ", 199) + "x", 199);
        edges.faultDue(repeated(" ", 191) + "missed 12", NONE);
    }

    private void linesAreTen() {
        edges.of("LINES with ; (59) between, 1 to 10");
        for (int lines = 1; lines <= 10; lines++) {
            edges.faultDue("carry 1" + repeated(";carry 1", lines - 1), NONE);
            // Another byte between is no ; and the faulty one is the first that is not.
            edges.faultDue(repeated("carry 1;", lines - 1) + "carry 1:carry 1", 8 * lines - 1);
            edges.faultDue(repeated("carry 1;", lines - 1) + "carry 1<carry 1", 8 * lines - 1);
            edges.faultDue(repeated("carry 1;", lines - 1) + "carry 1 carry 1", 8 * lines);
        }
        edges.faultDue(";carry 1", 0);
        edges.faultDue("carry 1;;carry 1", 8);
    }

    private void emptyText() {
        edges.of("(an empty TEXT ends too soon;");
        edges.faultDue("", 0);
        edges.faultDue(" ", 1);
        edges.faultDue(repeated(" ", 200), 200);
        NinePence x = Check.told("carry 7");
        due("fault() behind book()", x.fault(), 0);
        due("book() behind book()", x.book(), NOT);
    }

    private void behindTheTenth() {
        edges.of("behind the 10th no ; can stand);");
        String ten = repeated("carry 1;", 9) + "carry 1";
        edges.faultDue(ten, NONE);
        edges.faultDue(ten + ";", 79);
        edges.faultDue(ten + "  ;", 81);
        edges.faultDue(ten + ";carry 1", 79);
        edges.faultDue(ten + ";;", 79);
        // With nine lines, it is the line behind the ; that misses.
        edges.faultDue(repeated("carry 1;", 9), 72);
        // A fault in the tenth line comes ahead.
        edges.faultDue(repeated("carry 1;", 9) + "carry 100;", 78);
    }

    private void eachLine() {
        edges.of("each is one of: left N A H P. right N A H P. hand H K W. read X Y W. missed W. carry W. second W."
            + " page P left N. page P right N. page P free.");
        for (String[] line : LINES) {
            String word = line[1].split(" ")[0];
            edges.faultDue(line[1], NONE);
            edges.faultDue(word, word.length());
            edges.faultDue(line[1].substring(1), 0);
            edges.faultDue("x" + line[1], 0);
            edges.faultDue(word + "x" + line[1].substring(word.length()), 0);
            edges.faultDue(line[1].substring(word.length()), 1);
            edges.faultDue(line[1] + " 1", line[1].length() + 1);
            edges.faultDue(line[1] + " left", line[1].length() + 1);
        }
        edges.faultDue("free", 0);
        edges.faultDue("page 4 missed 3", 7);
        NinePence x = Check.told("left 12 3 2 4;right 13 2 1 5;hand 2 3 40;read 5 4 60;missed 11;carry 22;second 33",
            "page 4 left 70;page 5 right 80;page 0 left 1", "page 0 free");
        int[][] parts = {{0, 12, 3, 2, 4}, {1, 13, 2, 1, 5}};
        for (int entry = 0; entry < 2; entry++) {
            for (int what = 0; what < 5; what++) {
                due("entry(" + entry + ", " + what + ")", x.entry(entry, what), parts[entry][what]);
            }
        }
        due("odds(2, 3)", x.odds(2, 3), 40);
        due("odds(3, 2)", x.odds(3, 2), 1);
        due("count(3)", x.count(3), 11);
        due("count(4)", x.count(4), 22);
        due("count(5)", x.count(5), 33);
        due("off(4)", x.off(4), LIFT + 12 - 70);
        due("off(5)", x.off(5), LIFT - 13 + 80);
        due("off(0)", x.off(0), NONE);
    }

    private void points() {
        edges.of("(As written here, without points;");
        for (String[] line : LINES) {
            edges.faultDue(line[1] + ".", line[1].length());
            edges.faultDue(line[1] + ". " + line[1], line[1].length());
        }
    }

    private void dues() {
        edges.of("N a SUM, of page 0 .. 999999: its DUE is N, -N, or none;");
        edges.faultDue("left 0 0 0 0", 5);
        edges.faultDue("right 0 0 0 0", 6);
        for (int due : new int[] {0, 1, 999999}) {
            NinePence x = Check.told("page 2 left " + due + ";page 3 right " + due);
            due("off(2), due left " + due, x.off(2), LIFT - due);
            due("off(3), due right " + due, x.off(3), LIFT + due);
            Check.tell(x, "page 2 free;page 3 right 5");
            due("book()", x.book(), 2);
            due("off(2) free", x.off(2), NONE);
            due("off(3) told anew", x.off(3), LIFT + 5);
        }
        edges.faultDue("page 2 left 1000000", 12);
        edges.faultDue("page 2 right 1000000", 13);
        due("off of a page that was free before", Check.told("page 1 free").off(1), NONE);
    }

    // Each number of each line at its bounds and just outside.
    private void bounds() {
        edges.of("A an ACCOUNT, H a HAND, P a PAGE, K a KIND 0 .. 4, X, Y unlike figures, W 0 .. 99;");
        for (String[] line : LINES) {
            String[] bounds = line[0].split(" ");
            for (int i = 1; i < bounds.length; i++) {
                int dots = bounds[i].indexOf("..");
                if (dots > 0) {
                    int least = Integer.parseInt(bounds[i].substring(0, dots));
                    int most = Integer.parseInt(bounds[i].substring(dots + 2));
                    int place = placeOf(line[1], i);
                    edges.faultDue(with(line[1], i, "" + least), NONE);
                    edges.faultDue(with(line[1], i, "" + most), NONE);
                    edges.faultDue(with(line[1], i, "" + (most + 1)), place);
                    if (least > 0) {
                        edges.faultDue(with(line[1], i, "" + (least - 1)), place);
                    }
                    edges.faultDue(with(line[1], i, "-1"), place);
                }
            }
        }
        for (int x = 0; x < 10; x++) {
            for (int y = 0; y < 10; y++) {
                edges.faultDue("read " + x + " " + y + " 9", x == y ? 7 : NONE);
            }
        }
        edges.faultDue("read 4 04 1", 7);
    }

    private static String with(String line, int token, String other) {
        String[] tokens = line.split(" ");
        tokens[token] = other;
        return String.join(" ", tokens);
    }

    private static int placeOf(String line, int token) {
        String[] tokens = line.split(" ");
        int place = 0;
        for (int i = 0; i < token; i++) {
            place += tokens[i].length() + 1;
        }
        return place;
    }

    private void letters() {
        edges.of("small letters a .. z, numbers of 1 to 6 digits,");
        for (String[] line : LINES) {
            edges.faultDue(line[1].toUpperCase(java.util.Locale.ROOT), 0);
            edges.faultDue(Character.toUpperCase(line[1].charAt(0)) + line[1].substring(1), 0);
        }
        edges.faultDue("lefT 1 0 0 0", 0);
        edges.faultDue("`eft 1 0 0 0", 0);
        edges.faultDue("page 0 Free", 7);
        edges.faultDue("page 0 fre{", 7);
        // Behind a word that ends there, a byte just outside a .. z is a token of its own.
        edges.faultDue("carry` 7", 5);
        edges.faultDue("carry{ 7", 5);
        edges.faultDue("carrya 7", 0);
        edges.faultDue("carryz 7", 0);
    }

    private void numbers() {
        for (int digits = 1; digits <= 6; digits++) {
            NinePence x = Check.told("left " + repeated("9", digits) + " 0 0 0;carry " + repeated("0", digits - 1) + "7");
            due("entry(0, 1) of " + digits + " digits", x.entry(0, 1), Integer.parseInt(repeated("9", digits)));
            due("count(4)", x.count(4), 7);
        }
        for (int digits = 7; digits <= 20; digits++) {
            edges.faultDue("left " + repeated("9", digits) + " 0 0 0", 5);
            edges.faultDue("carry " + repeated("0", digits - 1) + "7", 6);
        }
    }

    private void blanks() {
        edges.of("blanks (32) may stand ahead of, between and behind TOKENS,"
            + " none is needed but between two words, two numbers;");
        for (String[] line : LINES) {
            edges.faultDue("   " + line[1].replace(" ", "   ") + "   ", NONE);
            edges.faultDue(line[1].replaceAll("(?<=[a-z]) | (?=[a-z])", ""), NONE);
            edges.faultDue("  ;  " + line[1], 2);
            edges.faultDue(line[1] + "  ;  " + line[1], NONE);
            edges.faultDue(line[1].replaceAll("(?<=[a-z]) | (?=[a-z])", "") + ";" + line[1], NONE);
            // A blank inside a word makes two of it, the first of which can not stand.
            edges.faultDue(line[1].charAt(0) + " " + line[1].substring(1), 0);
        }
        edges.faultDue("left 1234", 9);
        edges.faultDue("left 1 2 34", 9);
        edges.faultDue("left 1 2 3 45", 11);
        edges.faultDue("hand 2 340", 7);
        edges.faultDue("missedcarry 7", 0);
        edges.faultDue("page 4leftfree", 6);
        edges.faultDue("page 4 left 7 0", 14);
        edges.faultDue("missed 7 0", 9);
        // Only 32 is a blank.
        for (int sign : new int[] {0, 9, 10, 11, 12, 13, 31, 33, 127, 160}) {
            edges.faultDue("carry" + (char) sign + "7", 5);
            edges.faultDue((char) sign + "carry 7", 0);
            edges.faultDue("carry 7" + (char) sign, 7);
        }
    }

    private void stays() {
        edges.of("what earlier texts told stays.)");
        NinePence x = Check.told("left 21 0 0 0;page 1 left 5;missed 7;carry 8;second 9;hand 1 1 10;read 3 1 11", "right 23 0 1 2");
        due("count(0)", x.count(0), 2);
        due("entry(0, 1)", x.entry(0, 1), 21);
        due("off(1)", x.off(1), LIFT - 5);
        due("count(3)", x.count(3), 7);
        due("count(4)", x.count(4), 8);
        due("count(5)", x.count(5), 9);
        due("odds(1, 1)", x.odds(1, 1), 10);
        due("READ 3 1", x.one(0, 4, false), 11);
        // A text with a fault, and one that is erased, tell nothing.
        Check.tell(x, "missed 1;carry 1;second");
        due("book()", x.book(), NOT);
        due("erase()", x.erase(), 23);
        due("count(3) then", x.count(3), 7);
        due("count(4) then", x.count(4), 8);
    }

    // Ahead of each line stands nothing, one line, or as many as there may be.
    private static final String[] AHEAD = {"", "carry 7; ", "missed 1;carry 2;second 3;missed 4;carry 5;second 6;missed 7;carry 8;second 9;"};

    private void firstFault() {
        edges.of("A FAULT is at the first TOKEN (a row of small letters, a row of digits, any other byte) that cannot stand there");
        for (String[] line : LINES) {
            String[] tokens = line[1].split(" ");
            for (String ahead : AHEAD) {
                edges.faultDue(ahead + line[1], NONE);
                for (int i = 0; i <= tokens.length; i++) {
                    wrongTokens(ahead, line[1], i);
                }
            }
        }
        everyByte();
        // Of two, the first; where it begins, whatever is behind.
        edges.faultDue("carry 100;carry 100", 6);
        edges.faultDue("carrots 100", 0);
        edges.faultDue("left 1 9 9 9", 7);
        edges.faultDue("page 9 tree", 5);
        edges.faultDue("page 1 tree 9999999", 7);
        edges.faultDue("read 4 4 100", 7);
    }

    // In place of a token, and behind the last one, what can not stand there.
    private void wrongTokens(String ahead, String line, int token) {
        String[] tokens = line.split(" ");
        int place = ahead.length() + (token < tokens.length ? placeOf(line, token) : line.length() + 1);
        boolean end = token == tokens.length;
        boolean word = !end && Character.isLetter(tokens[token].charAt(0));
        String[] wrong = {"x", "missed", ".", "\u00ff", "-", word || end ? "1" : "left", end ? "2" : ";"};
        for (String other : wrong) {
            boolean stands = token == 0 && other.equals("missed");
            if (!stands) {
                edges.faultDue(ahead + (end ? line + " " + other : with(line, token, other)), place);
            }
        }
    }

    // Each byte ahead of a word, between it and its number, and behind that.
    private void everyByte() {
        for (int sign = 0; sign < 256; sign++) {
            boolean blank = sign == ' ', letter = sign >= 'a' && sign <= 'z', digit = sign >= '0' && sign <= '9';
            char other = (char) sign;
            edges.faultDue(other + "carry 7", blank ? NONE : 0);
            edges.faultDue("carry" + other + "7", blank || digit ? NONE : letter ? 0 : 5);
            edges.faultDue("carry 7" + other, blank || digit ? NONE : other == ';' ? 8 : 7);
        }
    }

    private void outOfBounds() {
        edges.of("(a number out of its bounds, of more digits, also),");
        for (String[] line : LINES) {
            String[] bounds = line[0].split(" ");
            for (int i = 1; i < bounds.length; i++) {
                if (bounds[i].contains("..")) {
                    int place = placeOf(line[1], i);
                    String least = bounds[i].substring(0, bounds[i].indexOf(".."));
                    edges.faultDue(with(line[1], i, repeated("0", 6 - least.length()) + least), NONE);
                    // Of more digits, though within its bounds; and such as would be within them if they went round.
                    for (String more : new String[] {"000000" + least, "1000000", "4294967297", "4294967298",
                        "18446744073709551617", "18446744073709551618", "2147483648", repeated("9", 40)}) {
                        edges.faultDue(with(line[1], i, more), place);
                    }
                }
            }
        }
    }

    private void tooSoon() {
        edges.of("or at the end, if it comes too soon.");
        for (String[] line : LINES) {
            String[] tokens = line[1].split(" ");
            for (String ahead : AHEAD) {
                for (int i = 0; i < tokens.length; i++) {
                    String text = ahead + line[1].substring(0, Math.max(0, placeOf(line[1], i) - 1));
                    edges.faultDue(text, text.length());
                    edges.faultDue(text + "   ", text.length() + 3);
                }
            }
        }
        edges.faultDue("carry 7;", 8);
        edges.faultDue("carry 7 ; ", 10);
    }

    private void inTheirOrder() {
        edges.of("LINES are done in their order; a thirty-first ENTRY is passed over.");
        NinePence x = Check.told("missed 1;missed 2;missed 3;page 0 left 5;page 0 free;page 0 right 6;hand 0 0 9;hand 0 0 8");
        due("count(3)", x.count(3), 3);
        due("off(0)", x.off(0), LIFT + 6);
        due("odds(0, 0)", x.odds(0, 0), 8);
        due("off(0) of a text that frees it last", Check.told("page 0 right 6;page 0 free").off(0), NONE);
        NinePence y = BookEdges.bookOf(28, "left", 1);
        Check.tell(y, "left 2 0 0 0;right 3 0 0 0;left 4 0 0 0;missed 44;right 5 0 0 0;carry 55");
        due("book()", y.book(), 6);
        due("count(0)", y.count(0), 30);
        due("entry(28, 1)", y.entry(28, 1), 2);
        due("entry(29, 1)", y.entry(29, 1), 3);
        due("out(-1)", y.out(-1), LIFT + 28 + 2 - 3);
        due("count(3) of a line behind", y.count(3), 44);
        due("count(4) of a line behind", y.count(4), 55);
        due("strike(0)", y.strike(0), 29);
        due("entry(28, 1): no passed one comes back", y.entry(28, 1), 3);
        due("entry(29, 1)", y.entry(29, 1), NinePence.UNKNOWN);
    }

    private void place() {
        edges.of("The place of the FAULT (the byte with which the TOKEN begins, or the length); NONE.");
        edges.faultDue("carry 7", NONE);
        edges.faultDue("x", 0);
        edges.faultDue("   carry   1000", 11);
        edges.faultDue("carry", 5);
        edges.faultDue("carry  ", 7);
        edges.faultDue(repeated(" ", 194) + "carry ", 200);
        edges.faultDue(repeated(" ", 193) + "carry x", 199);
        edges.faultDue(repeated(" ", 193) + "carry 1", NONE);
        NinePence x = new NinePence();
        Check.tell(x, "carry");
        due("fault()", x.fault(), 5);
        Check.tell(x, "o 9");
        due("fault() of a longer text", x.fault(), 0);
        x.erase();
        Check.tell(x, "carry 9");
        due("fault() of another text", x.fault(), NONE);
        due("count(4), nothing is done by asking", x.count(4), 1);
    }
}
