/** Lands to start from: each call makes a new one, always alike. */
final class Lands {
    /** The rows joined by turns at the east and at the west: one way from CELL 0 to CELL 24 through all. */
    static final int SNAKE = 15 | 30 << 5 | 15 << 10 | 30 << 15;

    private Lands() {
    }

    static ThumbHedges bare() {
        return new ThumbHedges();
    }

    /** Two of most things, an image that is behind, a FAULT, seven bytes on the tape. */
    static ThumbHedges ordinary() {
        ThumbHedges x = new ThumbHedges();
        x.hand(1 | 1 << 5, 1 << 7);
        x.hand(3, 1 << 19);
        x.cow(12, 1);
        x.cow(0, 2);
        x.gate(4, true);
        x.gate(20, true);
        Check.text(x, "frosts number-3;goes who+1;plant 30;");
        Check.text(x, "frosts 9;");
        x.by(0);
        x.said(3, 0);
        x.said(9, 6);
        x.plant(11);
        x.plant(38);
        x.hour(1);
        x.image();
        x.plant(2);
        x.go(0, 0);
        x.hour(1);
        Check.text(x, "cut 40;");
        Check.tape(x, "goes 1;");
        return x;
    }

    /** As many of all as there can be: HANDS, COWS, TEXTS, SAID, bytes, STEPS, lines. */
    static ThumbHedges full() {
        ThumbHedges x = new ThumbHedges();
        x.hand(Edge.FULL, Edge.FULL);
        x.hand(0, 0);
        x.hand(1, 0);
        x.hand(0, SNAKE);
        for (int i = 0; i < 5; i++) {
            x.cow(5 * i, i % 4);
        }
        Check.text(x, "frosts 10;goes 0;");
        Check.text(x, "frosts number;");
        Check.text(x, "hour 1;");
        Check.text(x, "");
        x.by(0);
        for (int i = 0; i < 8; i++) {
            x.said(i, 10);
        }
        x.press(0, 0);
        x.hour(60);
        x.press(0, 0);
        x.hour(30);
        x.image();
        for (int i = 0; i < 15; i++) {
            x.feed(0x20202020, 0x20202020, 0x20202020, 0x20202020, 0x20202020);
        }
        return x;
    }

    /** A COW that goes round and round, and 9999 less so many HOURS. */
    static ThumbHedges hoursLeft(int left) {
        ThumbHedges x = new ThumbHedges();
        x.cow(12, 1);
        int hours = 9999 - left;
        for (int i = 0; i < hours / 60; i++) {
            x.hour(60);
        }
        if (hours % 60 > 0) {
            x.hour(hours % 60);
        }
        return x;
    }

    static ThumbHedges last() {
        return hoursLeft(0);
    }

    /** A land with this HAND pressed on it. */
    static ThumbHedges pressed(int east, int south) {
        ThumbHedges x = new ThumbHedges();
        x.hand(east, south);
        x.press(0, 0);
        return x;
    }

    static ThumbHedges walled() {
        return pressed(Edge.FULL, Edge.FULL);
    }

    static ThumbHedges snake() {
        return pressed(0, SNAKE);
    }
}
