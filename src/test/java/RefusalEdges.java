import java.util.ArrayList;
import java.util.List;

/** What is refused, in which order, and that nothing changes by it. */
final class RefusalEdges {
    private static final int[] WRONG = {Integer.MIN_VALUE, -2147483647, -50000000, -5, -4, -3, -2, 2147483646, Integer.MAX_VALUE};
    private static final int UNKNOWN = NinePence.UNKNOWN, OUTSIDE = NinePence.OUTSIDE, NOT = NinePence.NOT, FULL = NinePence.FULL;

    private interface Call {
        long on(NinePence x);
    }

    /** A call, what it should answer, and how it is told. */
    private static final class Refused {
        final String told;
        final Call call;
        final int due;

        Refused(String told, Call call, int due) {
            this.told = told;
            this.call = call;
            this.due = due;
        }
    }

    private final Sentences edges;

    RefusalEdges(Sentences edges) {
        this.edges = edges;
    }

    void ask() {
        edges.of("Refused, and nothing changes:");
        List<Refused> refused = new ArrayList<>();
        refused.addAll(unknown());
        refused.addAll(outside());
        refused.addAll(notNow());
        refused.addAll(order());
        for (Refused each : refused) {
            nothingChanges(each);
        }
        edges.of("UNKNOWN (no such ENTRY, PAGE, HAND, KIND),");
        answersDue(unknown());
        edges.of("OUTSIDE (another number is not as told),");
        answersDue(outside());
        edges.of("NOT (not now: as told),");
        answersDue(notNow());
        edges.of("FULL: the first of these that fits.");
        answersDue(order());
    }

    private void answersDue(List<Refused> refused) {
        NinePence x = null;
        int calls = 0;
        for (Refused each : refused) {
            // An object is used for 512 calls.
            if (x == null || calls++ % 300 == 0) {
                x = atItsEnd();
            }
            edges.due(each.told, each.call.on(x), each.due);
        }
    }

    /** All that can be asked of an object, before the call and behind it: two objects told the same. */
    private void nothingChanges(Refused refused) {
        NinePence untouched = atItsEnd(), touched = atItsEnd();
        edges.due(refused.told, refused.call.on(touched), refused.due);
        List<Long> before = portrait(untouched), behind = portrait(touched);
        edges.due("what is to be seen behind " + refused.told, behind.equals(before) ? 1 : 0, 1);
    }

    /**
     * An object in which everything that can be refused is: three even entries, so that there is no ONE and nothing to
     * look at, a text of 200 bytes with a fault, and an other book that is full.
     */
    private static NinePence atItsEnd() {
        NinePence x = Check.told("left 210 0 1 0;right 120 3 2 4;right 90 0 3 5;page 0 left 210;page 4 right 1;read 3 5 7",
            "hand 2 0 5;missed 4;carry 3;second 2");
        for (int i = 0; i < 12; i++) {
            x.other(i == 3 ? 201 : i == 5 ? 120 : 9 + i);
        }
        Check.tell(x, "missed 9" + " ".repeat(191) + ";");
        return x;
    }

    private static List<Long> portrait(NinePence x) {
        List<Long> seen = new ArrayList<>();
        for (int what = 0; what < 6; what++) {
            seen.add((long) x.count(what));
            seen.add((long) x.off(what));
            seen.add((long) x.out(what - 1));
            seen.add((long) x.pair(false, what));
            seen.add((long) x.pair(true, what));
        }
        for (int hand = 0; hand < 4; hand++) {
            for (int kind = 0; kind < 5; kind++) {
                seen.add((long) x.odds(hand, kind));
                seen.add((long) x.entry(hand, kind));
            }
        }
        for (int n = 0; n < 4; n++) {
            for (int i = -1; i < n; i++) {
                seen.add((long) x.match(n, i));
            }
        }
        seen.add((long) x.signs());
        seen.add((long) x.one(-1, 0, false));
        seen.add((long) x.look(-1, false));
        seen.add(x.two(0));
        seen.add(x.two(1));
        seen.add(x.hide(1));
        seen.add((long) x.fault());
        // What the text tells is seen when it is done: without its last byte, and with an entry that makes the book odd.
        seen.add((long) x.erase());
        Check.tell(x, "left 9 0 1 1");
        seen.add((long) x.book());
        for (int i = 0; i < 4; i++) {
            for (int what = 0; what < 5; what++) {
                seen.add((long) x.one(i, what, false));
            }
            seen.add(x.chance(i, 1));
            seen.add((long) x.whose(i, 0));
            seen.add((long) x.look(i, false));
        }
        seen.add((long) x.mean(false, 0));
        seen.add((long) x.strike(3));
        return seen;
    }

    private static List<Refused> unknown() {
        List<Refused> all = new ArrayList<>();
        for (int wrong : with(WRONG, -1, 3, 4, 29, 30)) {
            all.add(new Refused("entry(" + wrong + ", 0)", x -> x.entry(wrong, 0), UNKNOWN));
            all.add(new Refused("mend(" + wrong + ", 0, 5)", x -> x.mend(wrong, 0, 5), UNKNOWN));
            all.add(new Refused("strike(" + wrong + ")", x -> x.strike(wrong), UNKNOWN));
            all.add(new Refused("judge(" + wrong + ", 0, 5)", x -> x.judge(wrong, 0, 5), UNKNOWN));
        }
        for (int wrong : with(WRONG, 6, 7)) {
            all.add(new Refused("out(" + wrong + ")", x -> x.out(wrong), UNKNOWN));
        }
        for (int wrong : with(WRONG, -1, 6, 7)) {
            all.add(new Refused("off(" + wrong + ")", x -> x.off(wrong), UNKNOWN));
        }
        for (int wrong : with(WRONG, -1, 5, 6, 7)) {
            all.add(new Refused("odds(0, " + wrong + ")", x -> x.odds(0, wrong), UNKNOWN));
            all.add(new Refused("learn(0, " + wrong + ")", x -> x.learn(0, wrong), UNKNOWN));
        }
        for (int wrong : with(WRONG, -1, 4, 5)) {
            all.add(new Refused("odds(" + wrong + ", 0)", x -> x.odds(wrong, 0), UNKNOWN));
            all.add(new Refused("learn(" + wrong + ", 0)", x -> x.learn(wrong, 0), UNKNOWN));
            all.add(new Refused("whose(" + wrong + ", 0)", x -> x.whose(wrong, 0), UNKNOWN));
        }
        for (int wrong : with(WRONG, -1, 7, 8)) {
            all.add(new Refused("ofKind(" + wrong + ")", x -> x.ofKind(wrong), UNKNOWN));
        }
        for (int wrong : with(WRONG, -1, 0, 1)) {
            all.add(new Refused("chance(" + wrong + ", 0)", x -> x.chance(wrong, 0), UNKNOWN));
        }
        return all;
    }

    private static List<Refused> outside() {
        List<Refused> all = new ArrayList<>();
        for (int wrong : with(WRONG, -1, 0, 9, 10)) {
            all.add(new Refused("write(1, " + wrong + ")", x -> x.write(1, wrong), OUTSIDE));
        }
        for (int wrong : with(WRONG, -1, 5, 6)) {
            all.add(new Refused("entry(0, " + wrong + ")", x -> x.entry(0, wrong), OUTSIDE));
            all.add(new Refused("one(-1, " + wrong + ", false)", x -> x.one(-1, wrong, false), OUTSIDE));
            all.add(new Refused("one(0, " + wrong + ", true)", x -> x.one(0, wrong, true), OUTSIDE));
        }
        for (int wrong : with(WRONG, -1, 2, 3)) {
            all.add(new Refused("mend(0, " + wrong + ", 5)", x -> x.mend(0, wrong, 5), OUTSIDE));
            all.add(new Refused("judge(0, " + wrong + ", 5)", x -> x.judge(0, wrong, 5), OUTSIDE));
            all.add(new Refused("two(" + wrong + ")", x -> x.two(wrong), OUTSIDE));
            all.add(new Refused("hide(" + wrong + ")", x -> x.hide(wrong), OUTSIDE));
        }
        for (int wrong : with(WRONG, -1, 0, 1000000)) {
            all.add(new Refused("mend(0, 0, " + wrong + ")", x -> x.mend(0, 0, wrong), OUTSIDE));
            all.add(new Refused("other(" + wrong + ")", x -> x.other(wrong), OUTSIDE));
        }
        for (int wrong : with(WRONG, -1, 1000000)) {
            all.add(new Refused("judge(0, 0, " + wrong + ")", x -> x.judge(0, 0, wrong), OUTSIDE));
        }
        for (int wrong : new int[] {Integer.MIN_VALUE, -5, -2}) {
            all.add(new Refused("one(" + wrong + ", 0, false)", x -> x.one(wrong, 0, false), OUTSIDE));
            all.add(new Refused("look(" + wrong + ", true)", x -> x.look(wrong, true), OUTSIDE));
        }
        for (int wrong : with(WRONG, -1, 6, 7)) {
            all.add(new Refused("pair(true, " + wrong + ")", x -> x.pair(true, wrong), OUTSIDE));
            all.add(new Refused("pair(false, " + wrong + ")", x -> x.pair(false, wrong), OUTSIDE));
            all.add(new Refused("count(" + wrong + ")", x -> x.count(wrong), OUTSIDE));
        }
        for (int wrong : with(WRONG, 4, 12, 13)) {
            all.add(new Refused("match(" + wrong + ", -1)", x -> x.match(wrong, -1), OUTSIDE));
            all.add(new Refused("match(3, " + wrong + ")", x -> x.match(3, wrong), OUTSIDE));
        }
        all.add(new Refused("match(3, 3)", x -> x.match(3, 3), OUTSIDE));
        all.add(new Refused("match(0, 0)", x -> x.match(0, 0), OUTSIDE));
        return all;
    }

    private static List<Refused> notNow() {
        List<Refused> all = new ArrayList<>();
        all.add(new Refused("book()", x -> x.book(), NOT));
        all.add(new Refused("signs()", x -> x.signs(), NOT));
        for (int part = 0; part < 2; part++) {
            int told = part;
            for (int hand = 0; hand < 4; hand++) {
                int whose = hand;
                all.add(new Refused("whose(" + hand + ", " + part + ")", x -> x.whose(whose, told), NOT));
            }
            all.add(new Refused("mean(false, " + part + ")", x -> x.mean(false, told), NOT));
            all.add(new Refused("mean(true, " + part + ")", x -> x.mean(true, told), NOT));
        }
        return all;
    }

    // Each call with all that it can be refused for at once, and with each part of that.
    private static List<Refused> order() {
        List<Refused> all = new ArrayList<>();
        for (int n = 1; n <= 8; n++) {
            int bytes = n;
            all.add(new Refused("write(1, " + n + ")", x -> x.write(1, bytes), FULL));
        }
        all.add(new Refused("other(1)", x -> x.other(1), FULL));
        all.add(new Refused("other(999999)", x -> x.other(999999), FULL));
        for (int wrong : with(WRONG, -1, 10, 1000000)) {
            all.add(new Refused("write(1, " + wrong + ") of a full text", x -> x.write(1, wrong), OUTSIDE));
            all.add(new Refused("entry(" + wrong + ", " + wrong + ")", x -> x.entry(wrong, wrong), UNKNOWN));
            all.add(new Refused("mend(" + wrong + ", " + wrong + ", 5)", x -> x.mend(wrong, wrong, 5), UNKNOWN));
            all.add(new Refused("mend(" + wrong + ", 0, " + wrong + ")", x -> x.mend(wrong, 0, wrong), UNKNOWN));
            all.add(new Refused("mend(0, " + wrong + ", 0)", x -> x.mend(0, wrong, 0), OUTSIDE));
            all.add(new Refused("odds(" + wrong + ", " + wrong + ")", x -> x.odds(wrong, wrong), UNKNOWN));
            all.add(new Refused("learn(" + wrong + ", " + wrong + ")", x -> x.learn(wrong, wrong), UNKNOWN));
            all.add(new Refused("judge(" + wrong + ", " + wrong + ", " + wrong + ")", x -> x.judge(wrong, wrong, wrong), UNKNOWN));
            all.add(new Refused("judge(" + wrong + ", 0, -1)", x -> x.judge(wrong, 0, -1), UNKNOWN));
            all.add(new Refused("chance(" + wrong + ", " + wrong + ")", x -> x.chance(wrong, wrong), UNKNOWN));
            all.add(new Refused("chance(0, " + wrong + ") of none", x -> x.chance(0, wrong), UNKNOWN));
            all.add(new Refused("whose(" + wrong + ", " + wrong + ")", x -> x.whose(wrong, wrong), UNKNOWN));
            all.add(new Refused("whose(" + wrong + ", 0) of none", x -> x.whose(wrong, 0), UNKNOWN));
            all.add(new Refused("whose(0, " + wrong + ") of none", x -> x.whose(0, wrong), OUTSIDE));
            all.add(new Refused("mean(false, " + wrong + ") of none", x -> x.mean(false, wrong), OUTSIDE));
            all.add(new Refused("mean(true, " + wrong + ") of none", x -> x.mean(true, wrong), OUTSIDE));
            all.add(new Refused("match(" + wrong + ", " + wrong + ")", x -> x.match(wrong, wrong), OUTSIDE));
            all.add(new Refused("pair(true, " + wrong + ")", x -> x.pair(true, wrong), OUTSIDE));
        }
        return all;
    }

    private static int[] with(int[] row, int... more) {
        int[] all = java.util.Arrays.copyOf(row, row.length + more.length);
        System.arraycopy(more, 0, all, row.length, more.length);
        return all;
    }
}
