import java.util.Arrays;

/** A book of entries whose two sides should agree, and the slips that would explain why they do not. */
public final class NinePence {
    public static final int NONE = -1, UNKNOWN = -2, OUTSIDE = -3, NOT = -4, FULL = -5;

    // What may be below 0 is told this much higher, so that it is never taken for a refusal.
    private static final int LIFT = 50000000;

    private static final int MOST_ENTRIES = 30, MOST_BYTES = 200, MOST_LINES = 10, MOST_OTHER_LINES = 12;
    private static final int MOST_SUM = 999999, MOST_FIGURES = 6, MOST_COLUMN = 5, MOST_ODDS = 99;
    private static final int ACCOUNTS = 8, HANDS = 4, PAGES = 6;

    private static final int LEFT = 0, RIGHT = 1;

    // The parts of an entry, as the document numbers them.
    private static final int SIDE = 0, SUM = 1, ACCOUNT = 2, HAND = 3, PAGE = 4, ENTRY_PARTS = 5;

    // The kinds of slips, as the document numbers them; those below ENTRY_KINDS are at entries.
    private static final int TURN = 0, FIGURE = 1, NOUGHT = 2, WRONG_SIDE = 3, TWICE = 4, MISSED = 5, CARRY = 6;
    private static final int ENTRY_KINDS = 5, KINDS = 7;

    // An entry has at most 5 turns, 53 figures, 2 noughts, 1 side and 1 twice; then come 1 missed and 60 carries.
    private static final int MOST_SLIPS = MOST_ENTRIES * 62 + 1 + PAGES * 2 * MOST_COLUMN;
    // At one entry each kind has at most one slip of a given change, at one page so have the carries.
    private static final int MOST_SINGLES = MOST_ENTRIES * ENTRY_KINDS + 1 + PAGES;

    private static final int CHAINS = 1021;

    private final Text text = new Text();
    private final Ledger ledger = new Ledger();
    private final Slips slips = new Slips(ledger);
    private final Singles singles = new Singles(ledger, slips, false);
    private final Singles narrowed = new Singles(ledger, slips, true);
    private final Pairs outPairs = new Pairs(slips);
    private final Pairs hidden = new Pairs(slips);
    private final Look wideLook = new Look(ledger, slips, singles);
    private final Look narrowLook = new Look(ledger, slips, narrowed);
    private final OtherBook otherBook = new OtherBook(ledger);
    private int workedOutAt = NONE;

    public NinePence() {
    }

    // ---- the book

    public int write(long bytes, int n) {
        if (n < 1 || n > 8) {
            return OUTSIDE;
        }
        if (text.length + n > MOST_BYTES) {
            return FULL;
        }
        for (int i = 0; i < n; i++) {
            text.append((int) (bytes >> 8 * i & 255));
        }
        return text.length;
    }

    public int erase() {
        int had = text.length;
        text.length = 0;
        return had;
    }

    public int fault() {
        return text.read();
    }

    public int book() {
        if (text.read() != NONE) {
            return NOT;
        }
        ledger.take(text);
        text.length = 0;
        return text.lines;
    }

    public int entry(int entry, int what) {
        if (!ledger.holds(entry)) {
            return UNKNOWN;
        }
        if (what < 0 || what >= ENTRY_PARTS) {
            return OUTSIDE;
        }
        return ledger.told(entry, what);
    }

    public int out(int page) {
        if (page != NONE && !isPage(page)) {
            return UNKNOWN;
        }
        return ledger.outOf(page) + LIFT;
    }

    public int off(int page) {
        if (!isPage(page)) {
            return UNKNOWN;
        }
        if (!ledger.hasDue(page)) {
            return NONE;
        }
        return ledger.outOf(page) - ledger.dueOf(page) + LIFT;
    }

    public int odds(int hand, int kind) {
        if (!isHand(hand) || !isEntryKind(kind)) {
            return UNKNOWN;
        }
        return ledger.oddsOf(hand, kind);
    }

    public int learn(int hand, int kind) {
        if (!isHand(hand) || !isEntryKind(kind)) {
            return UNKNOWN;
        }
        ledger.setOdds(hand, kind, Math.min(ledger.oddsOf(hand, kind) + 1, MOST_ODDS));
        return ledger.oddsOf(hand, kind);
    }

    public int mend(int entry, int side, int sum) {
        if (!ledger.holds(entry)) {
            return UNKNOWN;
        }
        if (!isSide(side) || !isSum(sum)) {
            return OUTSIDE;
        }
        ledger.change(entry, side, sum);
        return ledger.outOf(NONE) + LIFT;
    }

    public int strike(int entry) {
        if (!ledger.holds(entry)) {
            return UNKNOWN;
        }
        ledger.remove(entry);
        return ledger.size;
    }

    // ---- slips

    public int signs() {
        int out = ledger.outOf(NONE);
        if (out == 0) {
            return NOT;
        }
        int greater = out > 0 ? LEFT : RIGHT;
        int unsigned = Math.abs(out);
        int signs = 0;
        if (unsigned % 9 == 0) {
            signs |= 1;
        }
        if (unsigned % 2 == 0 && ledger.hasSum(greater, unsigned / 2)) {
            signs |= 2;
        }
        if (ledger.hasSum(greater, unsigned)) {
            signs |= 4;
        }
        if (Figures.isTens(unsigned)) {
            signs |= 8;
        }
        if (isNineTimesOrTenths(unsigned)) {
            signs |= 16;
        }
        return signs;
    }

    public int one(int i, int what, boolean narrow) {
        if (i < -1 || what < 0 || what > 4) {
            return OUTSIDE;
        }
        workOut();
        Singles asked = narrow ? narrowed : singles;
        if (i == -1) {
            return asked.size;
        }
        if (i >= asked.size) {
            return NONE;
        }
        return slips.told(asked.slip(i), what);
    }

    public int ofKind(int kind) {
        if (kind < 0 || kind >= KINDS) {
            return UNKNOWN;
        }
        workOut();
        return singles.manyOf(kind);
    }

    public long two(int what) {
        if (what < 0 || what > 1) {
            return OUTSIDE;
        }
        workOut();
        return what == 0 ? outPairs.many : outPairs.weights;
    }

    public long hide(int what) {
        if (what < 0 || what > 1) {
            return OUTSIDE;
        }
        workOut();
        return what == 0 ? hidden.many : hidden.weights;
    }

    public int pair(boolean hides, int what) {
        if (what < 0 || what > 5) {
            return OUTSIDE;
        }
        workOut();
        Pairs asked = hides ? hidden : outPairs;
        if (asked.many == 0) {
            return NONE;
        }
        return what < 3 ? slips.told(asked.first, what) : slips.told(asked.second, what - 3);
    }

    public long chance(int i, int part) {
        workOut();
        if (i < 0 || i >= singles.size) {
            return UNKNOWN;
        }
        if (!isPart(part)) {
            return OUTSIDE;
        }
        long all = 100 * singles.weights + ledger.second * outPairs.weights;
        return Fractions.lowest(100L * slips.weight(singles.slip(i)), all, part);
    }

    public int whose(int hand, int part) {
        if (!isHand(hand)) {
            return UNKNOWN;
        }
        if (!isPart(part)) {
            return OUTSIDE;
        }
        workOut();
        if (singles.size == 0) {
            return NOT;
        }
        return (int) Fractions.lowest(singles.weightsOfHand(hand), singles.weights, part);
    }

    public int look(int i, boolean narrow) {
        if (i < -1) {
            return OUTSIDE;
        }
        workOut();
        Look asked = narrow ? narrowLook : wideLook;
        if (i == -1) {
            return asked.size;
        }
        return i < asked.size ? asked.entryAt(i) : NONE;
    }

    public int mean(boolean narrow, int part) {
        if (!isPart(part)) {
            return OUTSIDE;
        }
        workOut();
        Look asked = narrow ? narrowLook : wideLook;
        if (asked.size == 0) {
            return NOT;
        }
        return (int) Fractions.lowest(asked.figuresByWeight, asked.allWeights, part);
    }

    public int judge(int entry, int side, int sum) {
        if (!ledger.holds(entry)) {
            return UNKNOWN;
        }
        if (!isSide(side) || sum != 0 && !isSum(sum)) {
            return OUTSIDE;
        }
        int stands = ledger.told(entry, SUM);
        if (side != ledger.told(entry, SIDE)) {
            return sum == stands ? WRONG_SIDE : NONE;
        }
        if (sum == 0) {
            return ledger.hasTwinAhead(entry) ? TWICE : NONE;
        }
        return Figures.kindBetween(stands, sum);
    }

    // ---- the other book

    public int other(int sum) {
        if (!isSum(sum)) {
            return OUTSIDE;
        }
        if (otherBook.size >= MOST_OTHER_LINES) {
            return FULL;
        }
        otherBook.add(sum);
        return otherBook.size;
    }

    public int match(int n, int i) {
        if (n < 0 || n > MOST_OTHER_LINES || n > ledger.size || i < -1 || i >= n) {
            return OUTSIDE;
        }
        otherBook.findLeastCosts(n);
        return i == -1 ? otherBook.leastCost() : otherBook.lineOf(i, n);
    }

    public int count(int what) {
        switch (what) {
            case 0:
                return ledger.size;
            case 1:
                return text.length;
            case 2:
                return otherBook.size;
            case 3:
                return ledger.missed;
            case 4:
                return ledger.carry;
            case 5:
                return ledger.second;
            default:
                return OUTSIDE;
        }
    }

    // ---- what the calls share

    private static boolean isSide(int side) {
        return side == LEFT || side == RIGHT;
    }

    private static boolean isSum(int sum) {
        return sum >= 1 && sum <= MOST_SUM;
    }

    private static boolean isHand(int hand) {
        return hand >= 0 && hand < HANDS;
    }

    private static boolean isPage(int page) {
        return page >= 0 && page < PAGES;
    }

    private static boolean isEntryKind(int kind) {
        return kind >= 0 && kind < ENTRY_KINDS;
    }

    private static boolean isPart(int part) {
        return part == 0 || part == 1;
    }

    private boolean isNineTimesOrTenths(int unsigned) {
        for (int entry = 0; entry < ledger.size; entry++) {
            int nineTimes = 9 * ledger.told(entry, SUM);
            if (unsigned == nineTimes || 10 * unsigned == nineTimes) {
                return true;
            }
        }
        return false;
    }

    // Many questions are asked between two changes, so all is worked out once behind each change.
    private void workOut() {
        if (workedOutAt == ledger.changes) {
            return;
        }
        slips.build();
        singles.build();
        narrowed.build();
        outPairs.find(-ledger.outOf(NONE));
        hidden.find(0);
        wideLook.build();
        narrowLook.build();
        workedOutAt = ledger.changes;
    }

    /** Rows of numbers, read and written only where they have a place. */
    private static final class Rows {
        static int at(int[] row, int i) {
            return i >= 0 && i < row.length ? row[i] : 0;
        }

        static void set(int[] row, int i, int value) {
            if (i >= 0 && i < row.length) {
                row[i] = value;
            }
        }
    }

    /** Parts of a whole. */
    private static final class Fractions {
        // No two long numbers need more steps than this for their greatest divisor.
        private static final int MOST_STEPS = 100;

        static long lowest(long above, long below, int part) {
            long divisor = greatestDivisor(above, below);
            long told = part == 0 ? above : below;
            return divisor > 0 ? told / divisor : told;
        }

        private static long greatestDivisor(long a, long b) {
            for (int step = 0; step < MOST_STEPS && b != 0; step++) {
                long rest = a % b;
                a = b;
                b = rest;
            }
            return a;
        }
    }

    /** Sums as figures by tens; places are counted from the last figure, 0. */
    private static final class Figures {
        private static final int[] TENS = {1, 10, 100, 1000, 10000, 100000, 1000000};

        static int tens(int place) {
            return Rows.at(TENS, place);
        }

        static int many(int sum) {
            int many = 1;
            while (many < MOST_FIGURES && sum >= Rows.at(TENS, many)) {
                many++;
            }
            return many;
        }

        static int at(int sum, int place) {
            int ten = Rows.at(TENS, place);
            return ten > 0 ? sum / ten % 10 : 0;
        }

        /** The sum with the figures at a place and ahead of it the other way round; 0 if that is no turn. */
        static int turned(int sum, int place) {
            int ten = Rows.at(TENS, place);
            if (ten <= 0) {
                return 0;
            }
            int upTo = sum / ten;
            int behind = upTo % 10;
            int ahead = upTo / 10 % 10;
            boolean newFirst = upTo < 100;
            if (behind == ahead || newFirst && behind == 0) {
                return 0;
            }
            return sum + (behind - ahead) * 9 * ten;
        }

        /** A tenth of the sum; 0 if it does not end with 0. */
        static int shorter(int sum) {
            return sum % 10 == 0 ? sum / 10 : 0;
        }

        /** Ten times the sum; 0 if that is no sum. */
        static int longer(int sum) {
            return sum <= MOST_SUM / 10 ? sum * 10 : 0;
        }

        /** The kind of slip by which one sum stands for the other: turn, figure or nought; NONE if none. */
        static int kindBetween(int stands, int should) {
            if (isTurn(stands, should)) {
                return TURN;
            }
            if (isOneFigure(stands, should)) {
                return FIGURE;
            }
            return shorter(stands) == should || longer(stands) == should ? NOUGHT : NONE;
        }

        static boolean isTens(int number) {
            for (int k = 1; k <= MOST_COLUMN; k++) {
                if (number == Rows.at(TENS, k)) {
                    return true;
                }
            }
            return false;
        }

        private static boolean isTurn(int stands, int should) {
            for (int place = 0; place < many(stands) - 1; place++) {
                if (turned(stands, place) == should) {
                    return true;
                }
            }
            return false;
        }

        private static boolean isOneFigure(int stands, int should) {
            if (many(stands) != many(should)) {
                return false;
            }
            int unlike = 0;
            for (int place = 0; place < many(stands); place++) {
                if (at(stands, place) != at(should, place)) {
                    unlike++;
                }
            }
            return unlike == 1;
        }
    }

    /** The text: its bytes, split into tokens and read into lines. */
    private static final class Text {
        static final int MOST_NUMBERS = 4;

        // What a token can be; the words from WORD_LEFT to WORD_PAGE begin a line.
        static final int END = 0, NUMBER = 1, BETWEEN = 2, STRANGE = 3;
        static final int WORD_LEFT = 10, WORD_RIGHT = 11, WORD_HAND = 12, WORD_READ = 13, WORD_MISSED = 14;
        static final int WORD_CARRY = 15, WORD_SECOND = 16, WORD_PAGE = 17, WORD_FREE = 18;

        // What a byte can be.
        private static final int BLANK = 0, LETTER = 1, DIGIT = 2, SIGN = 3;

        // What is no number of 1 to 6 digits is told as this, which is outside all bounds.
        private static final int NO_VALUE = -1;

        int length;
        int lines;
        private final int[] bytes = new int[MOST_BYTES];
        private final int[] tokens = new int[MOST_BYTES + 1];
        private final int[] begins = new int[MOST_BYTES + 1];
        private final int[] values = new int[MOST_BYTES + 1];
        private final int[] words = new int[MOST_LINES];
        private final int[] numbers = new int[MOST_LINES * MOST_NUMBERS];
        private int next;

        void append(int value) {
            Rows.set(bytes, length, value);
            length++;
        }

        int word(int line) {
            return Rows.at(words, line);
        }

        int number(int line, int i) {
            return Rows.at(numbers, line * MOST_NUMBERS + i);
        }

        /** Reads all lines: the place of the fault, or NONE. */
        int read() {
            split();
            next = 0;
            lines = 0;
            for (int line = 0; line < MOST_LINES; line++) {
                if (!readLine(line)) {
                    return Rows.at(begins, next);
                }
                lines++;
                int token = Rows.at(tokens, next);
                if (token == END) {
                    return NONE;
                }
                if (token != BETWEEN || lines == MOST_LINES) {
                    return Rows.at(begins, next);
                }
                next++;
            }
            return Rows.at(begins, next);
        }

        private boolean readLine(int line) {
            int word = Rows.at(tokens, next);
            if (word < WORD_LEFT || word > WORD_PAGE) {
                return false;
            }
            Rows.set(words, line, word);
            next++;
            switch (word) {
                case WORD_LEFT:
                case WORD_RIGHT:
                    return takeNumber(line, 0, 1, MOST_SUM) && takeNumber(line, 1, 0, ACCOUNTS - 1)
                        && takeNumber(line, 2, 0, HANDS - 1) && takeNumber(line, 3, 0, PAGES - 1);
                case WORD_HAND:
                    return takeNumber(line, 0, 0, HANDS - 1) && takeNumber(line, 1, 0, ENTRY_KINDS - 1)
                        && takeNumber(line, 2, 0, MOST_ODDS);
                case WORD_READ:
                    return takeNumber(line, 0, 0, 9) && Rows.at(values, next) != number(line, 0)
                        && takeNumber(line, 1, 0, 9) && takeNumber(line, 2, 0, MOST_ODDS);
                case WORD_PAGE:
                    return takeNumber(line, 0, 0, PAGES - 1) && readDue(line);
                default:
                    return takeNumber(line, 0, 0, MOST_ODDS);
            }
        }

        // The second number of a page's line is the word behind the page.
        private boolean readDue(int line) {
            int word = Rows.at(tokens, next);
            if (word != WORD_LEFT && word != WORD_RIGHT && word != WORD_FREE) {
                return false;
            }
            Rows.set(numbers, line * MOST_NUMBERS + 1, word);
            next++;
            return word == WORD_FREE || takeNumber(line, 2, 0, MOST_SUM);
        }

        private boolean takeNumber(int line, int i, int least, int most) {
            int value = Rows.at(values, next);
            if (Rows.at(tokens, next) != NUMBER || value < least || value > most) {
                return false;
            }
            Rows.set(numbers, line * MOST_NUMBERS + i, value);
            next++;
            return true;
        }

        private void split() {
            int many = 0;
            for (int place = 0; place < length; place++) {
                if (isBegin(place)) {
                    setToken(many, place);
                    many++;
                }
            }
            Rows.set(tokens, many, END);
            Rows.set(begins, many, length);
            Rows.set(values, many, NO_VALUE);
        }

        private boolean isBegin(int place) {
            int sort = sortAt(place);
            boolean goesOn = isRow(sort) && place > 0 && sortAt(place - 1) == sort;
            return sort != BLANK && !goesOn;
        }

        private void setToken(int i, int begin) {
            int sort = sortAt(begin);
            int end = begin + 1;
            while (isRow(sort) && end < length && sortAt(end) == sort) {
                end++;
            }
            Rows.set(begins, i, begin);
            Rows.set(values, i, sort == DIGIT ? valueOf(begin, end) : NO_VALUE);
            if (sort == LETTER) {
                Rows.set(tokens, i, wordOf(begin, end));
            } else if (sort == DIGIT) {
                Rows.set(tokens, i, NUMBER);
            } else {
                Rows.set(tokens, i, Rows.at(bytes, begin) == ';' ? BETWEEN : STRANGE);
            }
        }

        private static boolean isRow(int sort) {
            return sort == LETTER || sort == DIGIT;
        }

        private int sortAt(int place) {
            int sign = Rows.at(bytes, place);
            if (sign == ' ') {
                return BLANK;
            }
            if (sign >= 'a' && sign <= 'z') {
                return LETTER;
            }
            return sign >= '0' && sign <= '9' ? DIGIT : SIGN;
        }

        private int valueOf(int begin, int end) {
            if (end - begin > MOST_FIGURES) {
                return NO_VALUE;
            }
            int value = 0;
            for (int place = begin; place < end; place++) {
                value = value * 10 + Rows.at(bytes, place) - '0';
            }
            return value;
        }

        private int wordOf(int begin, int end) {
            if (is("left", begin, end)) {
                return WORD_LEFT;
            } else if (is("right", begin, end)) {
                return WORD_RIGHT;
            } else if (is("hand", begin, end)) {
                return WORD_HAND;
            } else if (is("read", begin, end)) {
                return WORD_READ;
            } else if (is("missed", begin, end)) {
                return WORD_MISSED;
            } else if (is("carry", begin, end)) {
                return WORD_CARRY;
            } else if (is("second", begin, end)) {
                return WORD_SECOND;
            } else if (is("page", begin, end)) {
                return WORD_PAGE;
            }
            return is("free", begin, end) ? WORD_FREE : STRANGE;
        }

        private boolean is(String word, int begin, int end) {
            if (end - begin != word.length()) {
                return false;
            }
            for (int i = 0; i < word.length(); i++) {
                if (word.charAt(i) != Rows.at(bytes, begin + i)) {
                    return false;
                }
            }
            return true;
        }
    }

    /** The entries, and what the texts told of hands, pages and odds. */
    private static final class Ledger {
        int size;
        int missed = 1;
        int carry = 1;
        int second = 1;
        int changes;
        private final int[] parts = new int[MOST_ENTRIES * ENTRY_PARTS];
        private final int[] odds = new int[HANDS * ENTRY_KINDS];
        private final int[] reads = new int[100];
        private final int[] dues = new int[PAGES];
        private final boolean[] dueTold = new boolean[PAGES];

        Ledger() {
            Arrays.fill(odds, 1);
        }

        boolean holds(int entry) {
            return entry >= 0 && entry < size;
        }

        int told(int entry, int what) {
            int i = entry * ENTRY_PARTS + what;
            return i >= 0 && i < parts.length ? parts[i] : 0;
        }

        private void setPart(int entry, int what, int value) {
            Rows.set(parts, entry * ENTRY_PARTS + what, value);
        }

        /** What stands left less what stands right on a page, or on all (NONE). */
        int outOf(int page) {
            int out = 0;
            for (int entry = 0; entry < size; entry++) {
                if (page == NONE || told(entry, PAGE) == page) {
                    out += outBy(entry);
                }
            }
            return out;
        }

        int outBy(int entry) {
            return told(entry, SIDE) == LEFT ? told(entry, SUM) : -told(entry, SUM);
        }

        boolean hasDue(int page) {
            return page >= 0 && page < dueTold.length && dueTold[page];
        }

        int dueOf(int page) {
            return Rows.at(dues, page);
        }

        boolean hasEntryOn(int page) {
            for (int entry = 0; entry < size; entry++) {
                if (told(entry, PAGE) == page) {
                    return true;
                }
            }
            return false;
        }

        boolean hasSum(int side, int sum) {
            for (int entry = 0; entry < size; entry++) {
                if (told(entry, SIDE) == side && told(entry, SUM) == sum) {
                    return true;
                }
            }
            return false;
        }

        boolean hasTwinAhead(int entry) {
            for (int ahead = 0; ahead < entry; ahead++) {
                if (told(ahead, SIDE) == told(entry, SIDE) && told(ahead, SUM) == told(entry, SUM)
                    && told(ahead, ACCOUNT) == told(entry, ACCOUNT)) {
                    return true;
                }
            }
            return false;
        }

        int oddsOf(int hand, int kind) {
            return Rows.at(odds, hand * ENTRY_KINDS + kind);
        }

        void setOdds(int hand, int kind, int value) {
            Rows.set(odds, hand * ENTRY_KINDS + kind, value);
            changes++;
        }

        /** How often a figure is written as another one. */
        int readOf(int figure, int written) {
            return Rows.at(reads, figure * 10 + written);
        }

        void change(int entry, int side, int sum) {
            setPart(entry, SIDE, side);
            setPart(entry, SUM, sum);
            changes++;
        }

        void remove(int entry) {
            for (int behind = entry + 1; behind < size; behind++) {
                for (int what = 0; what < ENTRY_PARTS; what++) {
                    setPart(behind - 1, what, told(behind, what));
                }
            }
            size--;
            changes++;
        }

        void take(Text text) {
            for (int line = 0; line < text.lines; line++) {
                takeLine(text, line);
            }
            changes++;
        }

        private void takeLine(Text text, int line) {
            int first = text.number(line, 0);
            int next = text.number(line, 1);
            switch (text.word(line)) {
                case Text.WORD_LEFT:
                    add(LEFT, text, line);
                    break;
                case Text.WORD_RIGHT:
                    add(RIGHT, text, line);
                    break;
                case Text.WORD_HAND:
                    setOdds(first, next, text.number(line, 2));
                    break;
                case Text.WORD_READ:
                    Rows.set(reads, first * 10 + next, text.number(line, 2));
                    break;
                case Text.WORD_MISSED:
                    missed = first;
                    break;
                case Text.WORD_CARRY:
                    carry = first;
                    break;
                case Text.WORD_SECOND:
                    second = first;
                    break;
                case Text.WORD_PAGE:
                    setDue(first, next, text.number(line, 2));
                    break;
                default:
                    break;
            }
        }

        private void add(int side, Text text, int line) {
            if (size >= MOST_ENTRIES) {
                return;
            }
            setPart(size, SIDE, side);
            setPart(size, SUM, text.number(line, 0));
            setPart(size, ACCOUNT, text.number(line, 1));
            setPart(size, HAND, text.number(line, 2));
            setPart(size, PAGE, text.number(line, 3));
            size++;
        }

        private void setDue(int page, int word, int sum) {
            if (page < 0 || page >= dueTold.length) {
                return;
            }
            dueTold[page] = word != Text.WORD_FREE;
            Rows.set(dues, page, word == Text.WORD_RIGHT ? -sum : sum);
        }
    }

    /** All slips of weight above 0, by kinds, places and what should stand. */
    private static final class Slips {
        int size;
        private final Ledger ledger;
        private final int[] kinds = new int[MOST_SLIPS];
        private final int[] places = new int[MOST_SLIPS];
        private final int[] shoulds = new int[MOST_SLIPS];
        private final int[] changes = new int[MOST_SLIPS];
        private final int[] weights = new int[MOST_SLIPS];
        // Slips whose changes fall into one chain, each chain in the order of the slips.
        private final int[] heads = new int[CHAINS];
        private final int[] nexts = new int[MOST_SLIPS];

        Slips(Ledger ledger) {
            this.ledger = ledger;
        }

        int kind(int slip) {
            return Rows.at(kinds, slip);
        }

        int place(int slip) {
            return Rows.at(places, slip);
        }

        int change(int slip) {
            return Rows.at(changes, slip);
        }

        int weight(int slip) {
            return Rows.at(weights, slip);
        }

        int told(int slip, int what) {
            switch (what) {
                case 0:
                    return kind(slip);
                case 1:
                    return place(slip);
                case 2:
                    return Rows.at(shoulds, slip);
                case 3:
                    return change(slip) + LIFT;
                default:
                    return weight(slip);
            }
        }

        /** The page whose out a slip changes; NONE for an entry that was missed. */
        int pageOf(int slip) {
            switch (kind(slip)) {
                case MISSED:
                    return NONE;
                case CARRY:
                    return place(slip);
                default:
                    return ledger.told(place(slip), PAGE);
            }
        }

        boolean standApart(int slip, int another) {
            return (kind(slip) == CARRY) != (kind(another) == CARRY) || place(slip) != place(another);
        }

        /** The first slip of the chain in which all slips of a change are; NONE: there is none. */
        int chainOf(int change) {
            return Rows.at(heads, Math.floorMod(change, CHAINS));
        }

        int nextInChain(int slip) {
            return Rows.at(nexts, slip);
        }

        void build() {
            size = 0;
            for (int entry = 0; entry < ledger.size; entry++) {
                putTurns(entry, ledger.told(entry, SUM), oddsAt(entry, TURN));
            }
            for (int entry = 0; entry < ledger.size; entry++) {
                putFigures(entry, ledger.told(entry, SUM), oddsAt(entry, FIGURE));
            }
            for (int entry = 0; entry < ledger.size; entry++) {
                int sum = ledger.told(entry, SUM);
                putSum(NOUGHT, entry, Figures.shorter(sum), oddsAt(entry, NOUGHT));
                putSum(NOUGHT, entry, Figures.longer(sum), oddsAt(entry, NOUGHT));
            }
            for (int entry = 0; entry < ledger.size; entry++) {
                int sum = ledger.told(entry, SUM);
                put(WRONG_SIDE, entry, sum, -2 * ledger.outBy(entry), oddsAt(entry, WRONG_SIDE));
            }
            for (int entry = 0; entry < ledger.size; entry++) {
                if (ledger.hasTwinAhead(entry)) {
                    put(TWICE, entry, 0, -ledger.outBy(entry), oddsAt(entry, TWICE));
                }
            }
            putMissed(ledger.outOf(NONE));
            for (int page = 0; page < PAGES; page++) {
                putCarries(page);
            }
            chain();
        }

        private int oddsAt(int entry, int kind) {
            return ledger.oddsOf(ledger.told(entry, HAND), kind);
        }

        // A change further ahead outweighs all changes behind it: so the lesser sums come from the first
        // figure to the last, then the greater ones from the last to the first.
        private void putTurns(int entry, int sum, int odds) {
            int most = Figures.many(sum) - 2;
            for (int place = most; place >= 0; place--) {
                int turned = Figures.turned(sum, place);
                if (turned < sum) {
                    putSum(TURN, entry, turned, odds);
                }
            }
            for (int place = 0; place <= most; place++) {
                int turned = Figures.turned(sum, place);
                if (turned > sum) {
                    putSum(TURN, entry, turned, odds);
                }
            }
        }

        // In the same order, and for the same reason, as the turns.
        private void putFigures(int entry, int sum, int odds) {
            int first = Figures.many(sum) - 1;
            for (int place = first; place >= 0; place--) {
                int written = Figures.at(sum, place);
                for (int figure = place == first ? 1 : 0; figure < written; figure++) {
                    int should = sum + (figure - written) * Figures.tens(place);
                    putSum(FIGURE, entry, should, odds * ledger.readOf(figure, written));
                }
            }
            for (int place = 0; place <= first; place++) {
                int written = Figures.at(sum, place);
                for (int figure = written + 1; figure <= 9; figure++) {
                    int should = sum + (figure - written) * Figures.tens(place);
                    putSum(FIGURE, entry, should, odds * ledger.readOf(figure, written));
                }
            }
        }

        private void putMissed(int out) {
            int should = Math.abs(out);
            if (should >= 1 && should <= MOST_SUM) {
                put(MISSED, out > 0 ? RIGHT : LEFT, should, -out, ledger.missed);
            }
        }

        private void putCarries(int page) {
            if (!ledger.hasEntryOn(page)) {
                return;
            }
            for (int k = 1; k <= MOST_COLUMN; k++) {
                put(CARRY, page, k, -Figures.tens(k), ledger.carry);
                put(CARRY, page, k, Figures.tens(k), ledger.carry);
            }
        }

        private void putSum(int kind, int entry, int should, int weight) {
            if (should == 0) {
                return;
            }
            int more = should - ledger.told(entry, SUM);
            put(kind, entry, should, ledger.told(entry, SIDE) == LEFT ? more : -more, weight);
        }

        private void put(int kind, int place, int should, int change, int weight) {
            if (weight <= 0 || size >= MOST_SLIPS) {
                return;
            }
            Rows.set(kinds, size, kind);
            Rows.set(places, size, place);
            Rows.set(shoulds, size, should);
            Rows.set(changes, size, change);
            Rows.set(weights, size, weight);
            size++;
        }

        private void chain() {
            Arrays.fill(heads, NONE);
            for (int slip = size - 1; slip >= 0; slip--) {
                int chain = Math.floorMod(change(slip), CHAINS);
                Rows.set(nexts, slip, Rows.at(heads, chain));
                Rows.set(heads, chain, slip);
            }
        }
    }

    /** The single slips that make out 0 alone; narrowed, those behind which no page is off. */
    private static final class Singles {
        int size;
        long weights;
        private final Ledger ledger;
        private final Slips slips;
        private final boolean narrow;
        private final int[] rows = new int[MOST_SINGLES];
        private final int[] outs = new int[PAGES];

        Singles(Ledger ledger, Slips slips, boolean narrow) {
            this.ledger = ledger;
            this.slips = slips;
            this.narrow = narrow;
        }

        int slip(int i) {
            return Rows.at(rows, i);
        }

        void build() {
            size = 0;
            weights = 0;
            for (int page = 0; page < PAGES; page++) {
                Rows.set(outs, page, ledger.outOf(page));
            }
            int wanted = -ledger.outOf(NONE);
            for (int slip = 0; slip < slips.size; slip++) {
                if (slips.change(slip) == wanted && (!narrow || leavesNoPageOff(slip))) {
                    Rows.set(rows, size, slip);
                    weights += slips.weight(slip);
                    size++;
                }
            }
        }

        int manyOf(int kind) {
            int many = 0;
            for (int i = 0; i < size; i++) {
                if (slips.kind(slip(i)) == kind) {
                    many++;
                }
            }
            return many;
        }

        long weightsOfHand(int hand) {
            long together = 0;
            for (int i = 0; i < size; i++) {
                int slip = slip(i);
                if (slips.kind(slip) < ENTRY_KINDS && ledger.told(slips.place(slip), HAND) == hand) {
                    together += slips.weight(slip);
                }
            }
            return together;
        }

        private boolean leavesNoPageOff(int slip) {
            int changed = slips.pageOf(slip);
            boolean homeFound = changed != NONE;
            for (int page = 0; page < PAGES; page++) {
                if (!ledger.hasDue(page)) {
                    homeFound = true;
                    continue;
                }
                int out = Rows.at(outs, page) + (page == changed ? slips.change(slip) : 0);
                if (out != ledger.dueOf(page)) {
                    return false;
                }
            }
            return homeFound;
        }
    }

    /** Pairs of slips at unlike places whose changes together are as wanted. */
    private static final class Pairs {
        long many;
        long weights;
        int first;
        int second;
        private long greatest;
        private final Slips slips;

        Pairs(Slips slips) {
            this.slips = slips;
        }

        void find(int wanted) {
            many = 0;
            weights = 0;
            greatest = 0;
            for (int slip = 0; slip < slips.size; slip++) {
                if (slips.kind(slip) != MISSED) {
                    findWith(slip, wanted - slips.change(slip));
                }
            }
        }

        private void findWith(int slip, int change) {
            int another = slips.chainOf(change);
            for (int steps = 0; another != NONE && steps < MOST_SLIPS; steps++) {
                if (another > slip && slips.change(another) == change && slips.kind(another) != MISSED
                    && slips.standApart(slip, another)) {
                    take(slip, another);
                }
                another = slips.nextInChain(another);
            }
        }

        // Pairs come in their order, so of several of the greatest weight the first one stays.
        private void take(int slip, int another) {
            long weight = (long) slips.weight(slip) * slips.weight(another);
            many++;
            weights += weight;
            if (weight > greatest) {
                greatest = weight;
                first = slip;
                second = another;
            }
        }
    }

    /** The entries to look at, in the order that is soonest home in the mean. */
    private static final class Look {
        int size;
        long figuresByWeight;
        long allWeights;
        private final Ledger ledger;
        private final Slips slips;
        private final Singles singles;
        private final int[] weights = new int[MOST_ENTRIES];
        private final int[] figures = new int[MOST_ENTRIES];
        private final int[] order = new int[MOST_ENTRIES];

        Look(Ledger ledger, Slips slips, Singles singles) {
            this.ledger = ledger;
            this.slips = slips;
            this.singles = singles;
        }

        int entryAt(int i) {
            return Rows.at(order, i);
        }

        void build() {
            size = 0;
            Arrays.fill(weights, 0);
            for (int i = 0; i < singles.size; i++) {
                int slip = singles.slip(i);
                if (slips.kind(slip) < ENTRY_KINDS) {
                    int entry = slips.place(slip);
                    Rows.set(weights, entry, Rows.at(weights, entry) + slips.weight(slip));
                }
            }
            for (int entry = 0; entry < ledger.size; entry++) {
                Rows.set(figures, entry, Figures.many(ledger.told(entry, SUM)));
                if (Rows.at(weights, entry) > 0) {
                    insert(entry);
                }
            }
            sumUp();
        }

        private void insert(int entry) {
            int i = size;
            while (i > 0 && isSooner(entry, Rows.at(order, i - 1))) {
                Rows.set(order, i, Rows.at(order, i - 1));
                i--;
            }
            Rows.set(order, i, entry);
            size++;
        }

        private boolean isSooner(int entry, int another) {
            return Rows.at(weights, entry) * Rows.at(figures, another)
                > Rows.at(weights, another) * Rows.at(figures, entry);
        }

        private void sumUp() {
            figuresByWeight = 0;
            allWeights = 0;
            long lookedAt = 0;
            for (int i = 0; i < size; i++) {
                int entry = entryAt(i);
                long weight = Rows.at(weights, entry);
                lookedAt += Rows.at(figures, entry);
                figuresByWeight += weight * lookedAt;
                allWeights += weight;
            }
        }
    }

    /** The other book, and how its lines go with the first entries. */
    private static final class OtherBook {
        private static final int UNPAIRED = 1, WIDTH = MOST_OTHER_LINES + 1;
        // Dearer than all lines and entries unpaired, so no least way has such a pair.
        private static final int NO_PAIR = 100;

        int size;
        private final Ledger ledger;
        private final int[] sums = new int[MOST_OTHER_LINES];
        // The least cost of the entries from one on with the lines from one on.
        private final int[] costs = new int[WIDTH * WIDTH];
        private final int[] pairCosts = new int[WIDTH * WIDTH];

        OtherBook(Ledger ledger) {
            this.ledger = ledger;
        }

        void add(int sum) {
            Rows.set(sums, size, sum);
            size++;
        }

        int leastCost() {
            return costFrom(0, 0);
        }

        void findLeastCosts(int entries) {
            for (int entry = entries; entry >= 0; entry--) {
                for (int line = size; line >= 0; line--) {
                    int cost = UNPAIRED * (entries - entry + size - line);
                    if (entry < entries && line < size) {
                        int pair = pairCost(ledger.told(entry, SUM), Rows.at(sums, line));
                        Rows.set(pairCosts, entry * WIDTH + line, pair);
                        cost = Math.min(pair + costFrom(entry + 1, line + 1),
                            UNPAIRED + Math.min(costFrom(entry + 1, line), costFrom(entry, line + 1)));
                    }
                    Rows.set(costs, entry * WIDTH + line, cost);
                }
            }
        }

        /** The line with which an entry goes: each entry ahead of it takes the least line that stays least. */
        int lineOf(int asked, int entries) {
            int from = 0;
            int line = NONE;
            for (int entry = 0; entry <= asked && entry < entries; entry++) {
                line = leastLine(entry, from);
                from = line == NONE ? from : line + 1;
            }
            return line;
        }

        private int leastLine(int entry, int from) {
            int cost = costFrom(entry, from);
            for (int line = from; line < size; line++) {
                int passed = UNPAIRED * (line - from);
                int pair = Rows.at(pairCosts, entry * WIDTH + line);
                if (passed + pair + costFrom(entry + 1, line + 1) == cost) {
                    return line;
                }
            }
            return NONE;
        }

        private int costFrom(int entry, int line) {
            return Rows.at(costs, entry * WIDTH + line);
        }

        private static int pairCost(int sum, int another) {
            if (sum == another) {
                return 0;
            }
            return Figures.kindBetween(sum, another) == NONE ? NO_PAIR : 1;
        }
    }
}
