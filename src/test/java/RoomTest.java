import java.lang.management.ManagementFactory;

/** A run has one room for all that it makes: rows are made in the constructor, and calls make none. */
public final class RoomTest {
    private static final com.sun.management.ThreadMXBean THREADS =
            (com.sun.management.ThreadMXBean) ManagementFactory.getThreadMXBean();
    /** What the machine itself may make meanwhile. */
    private static final long SLACK = 2000;

    public static void main(String[] args) {
        calls(new ThumbHedges(), 1);
        long before = THREADS.getThreadAllocatedBytes(Thread.currentThread().getId());
        ThumbHedges x = new ThumbHedges();
        long made = THREADS.getThreadAllocatedBytes(Thread.currentThread().getId()) - before;
        Check.due("a new object has less than 60000 bytes (" + made + ")", made < 60000, true);
        before = THREADS.getThreadAllocatedBytes(Thread.currentThread().getId());
        calls(x, 8);
        made = THREADS.getThreadAllocatedBytes(Thread.currentThread().getId()) - before;
        Check.due("calls make nothing (" + made + " bytes)", made < SLACK, true);
        Check.end("RoomTest");
    }

    private static void calls(ThumbHedges x, int rounds) {
        for (int round = 0; round < rounds; round++) {
            x.back();
            x.hand(77 + round, 99);
            x.cow(12, 1);
            x.cow(24, 1);
            x.gate(0, true);
            x.end(0);
            // "frosts far cell of 1" and "2+number/10;"
            x.feed(0x66726F73, 0x74732066, 0x61722063, 0x656C6C20, 0x6F662031);
            x.feed(0x322B6E75, 0x6D626572, 0x2F31303B, 0x20202020, 0x20202020);
            x.text();
            x.fault(0);
            x.by(0);
            x.plant(7);
            x.cut(7);
            x.press(0, 3);
            x.go(0, 0);
            x.hour(60);
            x.played(0);
            x.years(round, 40);
            x.undo();
            ask(x);
            x.image();
            x.feed(0x66726F73, 0x74732066, 0x61722063, 0x656C6C20, 0x6F662031);
            x.text();
            x.fault(0);
        }
    }

    private static void ask(ThumbHedges x) {
        x.of(0, 2);
        x.cell(3, 3);
        x.hedge(4, 3);
        x.between(3, 4);
        x.is(4);
        x.book(0, 1);
        x.foretold(60, 0);
        x.miles(0, 24);
        x.way(0, 24, 3);
        x.cuts(0, 24);
        x.farthest(0);
        x.wide();
        x.regions(true);
        x.rings();
        x.ends();
        x.necks();
        x.paths(0, 24);
        x.walk(0, true);
        x.home(5);
        x.gates(3, false);
        x.turned(0, 1, true);
        x.unlike(0, true);
        x.owner(40);
        x.twins(0, 1);
        x.kinds();
        x.selves(0);
        x.look(40);
        x.said(3, 3);
        x.whose();
        x.thickest();
        x.ledger(0);
        x.about(0);
    }
}
