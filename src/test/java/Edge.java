import java.util.ArrayList;
import java.util.LinkedHashSet;
import java.util.List;
import java.util.Set;
import java.util.function.Supplier;
import java.util.function.ToLongFunction;

/** What the tests of boundaries share: both sides of what is told, and calls that must change nothing. */
final class Edge {
    static final int FULL = 0xFFFFF;
    static final int MIN = Integer.MIN_VALUE;
    static final int MAX = Integer.MAX_VALUE;

    /** A call of which one number is looked at. */
    interface Call {
        long of(ThumbHedges x, int n);
    }

    private final String call;
    private final Supplier<ThumbHedges> made;
    private final Call asked;
    private int lowest;
    private int highest;

    private Edge(String call, Supplier<ThumbHedges> made, Call asked) {
        this.call = call;
        this.made = made;
        this.asked = asked;
    }

    static Edge of(String call, Supplier<ThumbHedges> made, Call asked) {
        return new Edge(call, made, asked);
    }

    /** The lowest number that is told, and what it answers. */
    Edge from(int n, long want) {
        lowest = n;
        Check.due(call + ", n " + n, asked.of(made.get(), n), want);
        return this;
    }

    /** The highest one. */
    Edge to(int n, long want) {
        highest = n;
        Check.due(call + ", n " + n, asked.of(made.get(), n), want);
        return this;
    }

    /** One below, one above and numbers far out answer this, and change nothing. */
    void others(long wrong) {
        for (int n : beyond(lowest, highest)) {
            refused(call + ", n " + n, made, x -> asked.of(x, n), wrong);
        }
    }

    /** Some would be within, if just their lowest bits were looked at. */
    static Set<Integer> beyond(int lowest, int highest) {
        int[] all = {lowest - 1, highest + 1, lowest - 2, highest + 2, lowest - 32, highest + 32, lowest - 64, lowest + 64,
            highest + 256, lowest + (1 << 16), lowest - (1 << 16), -100, 10000, 1 << 20, 1 << 25, 1 << 30, MIN, MIN + 1,
            MAX, MAX - 1};
        Set<Integer> beyond = new LinkedHashSet<>();
        for (int n : all) {
            if (n < lowest || n > highest) {
                beyond.add(n);
            }
        }
        return beyond;
    }

    /** The call answers this, and all is as it would be without it. */
    static void refused(String call, Supplier<ThumbHedges> made, ToLongFunction<ThumbHedges> asked, long want) {
        ThumbHedges x = made.get();
        Check.due(call, asked.applyAsLong(x), want);
        same(call, x, made.get());
    }

    /** Two objects are alike: now, as STEPS are taken back, at their images, and by what their tapes hold. */
    static void same(String call, ThumbHedges x, ThumbHedges y) {
        alike(call + ": then", x, y);
        for (int i = 0; i < 3; i++) {
            Check.due(call + ": undo() then", x.undo(), y.undo());
            alike(call + ": taken back then", x, y);
        }
        Check.due(call + ": back() then", x.back(), y.back());
        alike(call + ": back then", x, y);
        Check.due(call + ": text() then", x.text(), y.text());
        alike(call + ": read then", x, y);
    }

    private static void alike(String call, ThumbHedges x, ThumbHedges y) {
        List<Integer> is = all(x);
        List<Integer> due = all(y);
        if (!is.equals(due)) {
            Check.due(call + " all is " + is + ", due is " + due, false, true);
        }
    }

    /** All that can be asked of what is told and done, but the middle of the BOOK. */
    private static List<Integer> all(ThumbHedges x) {
        List<Integer> all = whatIsKept(x);
        all.add(x.about(6));
        all.add(x.fault(0));
        all.add(x.fault(1));
        return all;
    }

    /** All but the tape and the latest FAULT. */
    static List<Integer> whatIsKept(ThumbHedges x) {
        List<Integer> all = new ArrayList<>();
        for (int i = 0; i < 8; i++) {
            all.add(i == 6 ? 0 : x.about(i));
        }
        for (int i = 0; i < 5; i++) {
            all.add(x.is(i));
        }
        int hands = all.get(0);
        for (int i = 0; i < 2 * hands; i++) {
            all.add(x.turned(i / 2, 0, i % 2 == 1));
        }
        int cows = all.get(1);
        for (int i = 0; i < 3 * cows; i++) {
            all.add(x.of(i / 3, i % 3));
        }
        int lines = x.book(-1, 0);
        all.add(lines);
        for (int i = 0; i < 3 && lines > 0; i++) {
            all.add(x.book(0, i));
            all.add(x.book(lines - 1, i));
        }
        all.add(x.whose());
        all.add(x.hedge(13, 3));
        return all;
    }
}
