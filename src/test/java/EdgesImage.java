/** Boundaries of promises 45, 46 and 48 to 51: what was said, the ledger, the image, and how many there are. */
final class EdgesImage {
    private EdgesImage() {
    }

    private static void due(String call, long got, long want) {
        Check.due(call, got, want);
    }

    /** "-2 for others (0 .. 10)": HEDGES 0 .. 39 or NONE. */
    static void promise45Others() {
        Edge.of("45 said(n, 3)", Lands::bare, (x, n) -> x.said(n, 3)).from(-1, 0).to(39, 1).others(-2);
        Edge.of("45 said(n, 3)", Lands::ordinary, (x, n) -> x.said(n, 3)).from(-1, 0).to(39, 3).others(-2);
        Edge.of("45 said(n, 3)", Lands::ordinary, (x, n) -> x.said(n, 3)).from(0, 3).to(39, 3);
        Edge.of("45 said(0, n)", Lands::bare, (x, n) -> x.said(0, n)).from(0, 1).to(10, 1).others(-2);
        Edge.of("45 said(39, n)", Lands::ordinary, (x, n) -> x.said(39, n)).from(0, 3).to(10, 3).others(-2);
    }

    /** "Or if there are 8." */
    static void promise45ThereAreEight() {
        ThumbHedges x = new ThumbHedges();
        for (int i = 1; i <= 8; i++) {
            due("45 one by one", x.said(5 * i - 1, i), i);
            due("45 so many", x.about(5), i);
        }
        due("45 a ninth", x.said(0, 0), -2);
        due("45 the same again", x.said(4, 1), -2);
        due("45 eight", x.about(5), 8);
        Edge.refused("45 a ninth", Lands::full, y -> y.said(0, 10), -2);
        Edge.refused("45 a ninth that is none", Lands::full, y -> y.said(40, 11), -2);
    }

    /** "(hedge NONE: none any more)": of eight, of none. */
    static void promise45NoneAnyMore() {
        ThumbHedges x = Lands.full();
        due("45 none any more", x.said(-1, 0), 0);
        due("45 none", x.about(5), 0);
        due("45 none again", x.said(-1, 0), 0);
        due("45 a first", x.said(39, 10), 1);
        Edge.refused("45 none of none", Lands::bare, y -> y.said(-1, 5), 0);
        due("45 is no STEP", new ThumbHedges().said(0, 0), 1);
    }

    /** Without TEXTS none; with nothing SAID all are so. */
    static void promise46NoneAndAll() {
        ThumbHedges x = new ThumbHedges();
        due("46 no TEXTS", x.whose(), 0);
        x.said(0, 3);
        due("46 no TEXTS", x.whose(), 0);
        x.said(-1, 0);
        for (int i = 0; i < 4; i++) {
            Check.text(x, i % 2 == 0 ? "frosts " + i + ";" : "goes " + i + ";");
            due("46 nothing SAID", x.whose(), (2 << i) - 1);
        }
        x.said(0, 3);
        due("46 without: 3", x.whose(), 2 | 8);
        x.said(0, 2);
        due("46 all must be so", x.whose(), 0);
    }

    /** By the ends of frosts: what is below 0 is 0, what is above 10 is 10. */
    static void promise46FrostsAtTheirEnds() {
        ThumbHedges x = new ThumbHedges();
        Check.text(x, "frosts number-5;");
        Check.text(x, "frosts 9+number/20;");
        Check.text(x, "frosts 11;");
        Check.text(x, "frosts -1;");
        x.said(39, 10);
        due("46 10", x.whose(), 1 | 2 | 4);
        x.said(0, 9);
        due("46 9 and 10", x.whose(), 2);
        x.said(-1, 0);
        x.said(0, 0);
        due("46 0", x.whose(), 1 | 8);
        x.said(6, 1);
        due("46 1", x.whose(), 1);
    }

    /** "(as now)", and whichever rules; all eight count. */
    static void promise46AsNow() {
        ThumbHedges x = new ThumbHedges();
        Check.text(x, "frosts all;");
        Check.text(x, "frosts hour;");
        for (int i = 0; i < 8; i++) {
            x.said(i, 1);
        }
        due("46 neither", x.whose(), 0);
        x.plant(39);
        due("46 by the HEDGES", x.whose(), 1);
        x.by(1);
        due("46 whichever rules", x.whose(), 1);
        x.hour(1);
        due("46 by the HOUR", x.whose(), 3);
        x.cut(39);
        due("46 by the HOUR", x.whose(), 2);
        x.said(-1, 0);
        for (int i = 0; i < 8; i++) {
            x.said(i, i == 7 ? 2 : 1);
        }
        due("46 the eighth isn't so", x.whose(), 0);
        Edge.refused("46 changes nothing", Lands::ordinary, y -> y.whose(), 1);
    }

    /** "-2 for others (0, 1)." */
    static void promise48Others() {
        Edge.of("48 ledger(n)", Lands::bare, (x, n) -> x.ledger(n)).from(0, 0).to(1, 0).others(-2);
        Edge.of("48 ledger(n)", Lands::full, (x, n) -> x.ledger(n)).from(0, 30).to(1, 0).others(-2);
        Edge.of("48 ledger(n)", EdgesImage::bothKinds, (x, n) -> x.ledger(n)).from(0, 1).to(1, 2).others(-2);
    }

    /** Two COWS come home, HEDGE 11 freezes. */
    private static ThumbHedges bothKinds() {
        ThumbHedges x = new ThumbHedges();
        x.gate(1, true);
        x.cow(0, 0);
        x.cow(0, 0);
        x.plant(11);
        x.hour(1);
        return x;
    }

    /** COWS by number, "then" the frost. */
    static void promise48InTheirOrder() {
        ThumbHedges x = bothKinds();
        int[][] due = {{0, 1, 0}, {0, 1, 1}, {0, 0, 11}};
        for (int i = 0; i < 9; i++) {
            due("48 book(" + i / 3 + ", " + i % 3 + ")", x.book(i / 3, i % 3), due[i / 3][i % 3]);
        }
        x.undo();
        due("48 taken back", x.ledger(0) + x.ledger(1), 0);
    }

    /** "The IMAGE is as all is now: HOUR", at the first and at the last one; nothing else is otherwise. */
    static void promise49Hour() {
        due("49 at first", new ThumbHedges().image(), 0);
        due("49 at last", Lands.last().image(), 9999);
        ThumbHedges x = Lands.ordinary();
        due("49 HOUR", x.image(), x.is(0));
        due("49 as ahead of it", Edge.whatIsKept(x).equals(Edge.whatIsKept(Lands.ordinary())) ? 1 : 0, 1);
        due("49 the tape stays", x.about(6), 7);
        due("49 the FAULT stays", x.fault(0), 2);
    }

    /** The image is of then: each thing that is told or done later is not in it, and it stays. */
    static void promise49OfThen() {
        ThumbHedges x = Lands.ordinary();
        x.image();
        for (int i = 0; i < 3; i++) {
            change(x);
            due("50 back()", x.back(), Lands.ordinary().is(0));
            due("50 all is so again", Edge.whatIsKept(x).equals(Edge.whatIsKept(Lands.ordinary())) ? 1 : 0, 1);
        }
        due("50 STEPS, too", x.undo(), Lands.ordinary().about(4) - 1);
    }

    private static void change(ThumbHedges x) {
        x.hand(77, 88);
        x.cow(7, 3);
        x.gate(4, false);
        x.gate(2, true);
        Check.text(x, "goes 5;plant 39;");
        x.by(2);
        x.said(-1, 0);
        x.said(39, 1);
        x.played(2);
        x.press(1, 6);
        x.hour(60);
        x.years(5, 40);
    }

    /** "All as it is, but the tape and the latest FAULT": each of the two, with and without. */
    static void promise50TheTapeAndTheFault() {
        ThumbHedges x = new ThumbHedges();
        Check.text(x, "?");
        Check.tape(x, "goes 1;");
        x.image();
        x.end(3);
        x.back();
        due("50 the tape is as it is", x.about(6), 3);
        Check.text(x, "goes 10000;");
        x.back();
        due("50 the FAULT is the latest", x.fault(0), 2);
        due("50 its place, too", x.fault(1), 5);
        due("50 the tape is empty", x.about(6), 0);
        Check.text(x, "goes 1;");
        x.back();
        due("50 without", x.fault(0), 0);
        due("50 without a place", x.fault(1), -1);
        due("50 that TEXT is none any more", x.about(2), 0);
        due("50 it can't be played", x.played(0), -2);
        ThumbHedges y = new ThumbHedges();
        Check.text(y, "?");
        Check.tape(y, "cut 3;");
        due("50 to the first image", y.back(), 0);
        due("50 the FAULT stays", y.fault(0), 1);
        due("50 the tape stays", y.about(6), 6);
        due("50 it is read", y.text(), 0);
        due("50 as it was", y.played(0), 0);
    }

    /** Each thing that an image holds, one by one. */
    static void promise50EachThing() {
        for (int i = 0; i < 12; i++) {
            ThumbHedges x = Lands.ordinary();
            x.image();
            changeOne(x, i);
            due("50 thing " + i + " is otherwise", Edge.whatIsKept(x).equals(Edge.whatIsKept(Lands.ordinary())) ? 1 : 0, 0);
            x.back();
            due("50 thing " + i + " is so again", Edge.whatIsKept(x).equals(Edge.whatIsKept(Lands.ordinary())) ? 1 : 0, 1);
        }
    }

    private static void changeOne(ThumbHedges x, int which) {
        switch (which) {
            case 0:
                x.hand(1, 1);
                break;
            case 1:
                x.cow(1, 1);
                break;
            case 2:
                x.gate(24, true);
                break;
            case 3:
                Check.text(x, "goes 1;");
                break;
            case 4:
                x.by(1);
                break;
            case 5:
                x.said(1, 1);
                break;
            case 6:
                x.said(-1, 0);
                break;
            case 7:
                x.plant(39);
                break;
            case 8:
                x.go(0, 0);
                break;
            case 9:
                x.hour(1);
                break;
            case 10:
                x.undo();
                break;
            default:
                x.gate(4, false);
                break;
        }
    }

    /** What came behind the image can be told anew, and is another. */
    static void promise50ToldAnew() {
        ThumbHedges x = new ThumbHedges();
        x.hand(1, 0);
        Check.text(x, "frosts 1;");
        x.cow(12, 0);
        x.image();
        for (int i = 2; i < 6; i++) {
            due("50 second HAND", x.hand(i, i), 1);
            due("50 second TEXT", Check.text(x, "frosts " + i + ";"), 1);
            due("50 second COW", x.cow(i, i % 4), 1);
            x.by(1);
            due("50 it is that HAND", x.turned(1, 0, true), i);
            due("50 it is that TEXT", x.hedge(0, 3), i);
            due("50 it is that COW", x.of(1, 0) * 10 + x.of(1, 1), i * 10 + i % 4);
            due("50 the first HAND", x.turned(0, 0, false), 1);
            x.by(0);
            due("50 the first TEXT", x.hedge(0, 3), 1);
            x.back();
            due("50 no second HAND", x.turned(1, 0, true), -1);
            due("50 no second TEXT", x.by(1) ? 1 : 0, 0);
            due("50 no second COW", x.of(1, 0), -100);
        }
    }

    /** Thirty STEPS and thirty lines are in it, all of them. */
    static void promise50ThirtySteps() {
        for (int n : new int[] {1, 29, 30, 31, 47}) {
            ThumbHedges x = Lands.full();
            ThumbHedges y = Lands.full();
            x.hour(n);
            x.undo();
            x.years(3, 40);
            due("50 back", x.back(), 90);
            for (int i = 29; i >= 0; i--) {
                due("50 undo", x.undo(), i);
                y.undo();
                for (int what = 0; what < 4; what++) {
                    due("50 is(" + what + ") again", x.is(what), y.is(what));
                }
                due("50 lines again", x.book(-1, 0), y.book(-1, 0));
                due("50 the latest line again", x.book(28, 2), y.book(28, 2));
            }
            due("50 none", x.undo(), -1);
            due("50 back again", x.back(), 90);
            due("50 thirty again", x.about(4), 30);
            due("50 thirty lines", x.book(-1, 0), 30);
        }
    }

    /** "-2 for others." */
    static void promise51Others() {
        Edge.of("51 about(n)", Lands::bare, (x, n) -> x.about(n)).from(0, 0).to(7, 0).others(-2);
        Edge.of("51 about(n)", Lands::ordinary, (x, n) -> x.about(n)).from(0, 2).to(7, 1 << 4 | 1 << 20).others(-2);
        Edge.of("51 about(n)", Lands::full, (x, n) -> x.about(n)).from(0, 4).to(7, 0).others(-2);
    }

    /** As many as there can be, and none. */
    static void promise51AtTheirEnds() {
        int[] most = {4, 5, 4, 0, 30, 8, 300, 0};
        int[] none = {0, 0, 0, -1, 0, 0, 0, 0};
        ThumbHedges full = Lands.full();
        ThumbHedges bare = new ThumbHedges();
        for (int i = 0; i < 8; i++) {
            due("51 about(" + i + ") of all", full.about(i), most[i]);
            due("51 about(" + i + ") of none", bare.about(i), none[i]);
        }
        for (int cell = 0; cell < 25; cell++) {
            full.gate(cell, true);
        }
        due("51 all GATES", full.about(7), 0x1FFFFFF & ~(7 << 6 | 7 << 11 | 7 << 16));
        due("51 THE TEXT", full.by(3) ? full.about(3) : -2, 3);
        due("51 no TEXT", full.by(-1) ? full.about(3) : -2, -1);
    }
}
