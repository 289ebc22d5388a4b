/** Boundaries of promise 14: HOURS. */
final class EdgesHours {
    private EdgesHours() {
    }

    private static void due(String call, long got, long want) {
        Check.due(call, got, want);
    }

    private static int anew(int x) {
        return (x * 587 + 457) % 30817;
    }

    /** "HOURS pass (1 .. 60)", "NONE for others". */
    static void promise14Others() {
        Edge.of("14 hour(n)", Lands::bare, (x, n) -> x.hour(n)).from(1, 0).to(60, 0).others(-1);
        Edge.of("14 hour(n)", EdgesHours::homeward, (x, n) -> x.hour(n)).from(1, 1).to(60, 3).others(-1);
        for (int n : new int[] {1, 2, 59, 60}) {
            ThumbHedges x = new ThumbHedges();
            x.hour(n);
            due("14 HOUR", x.is(0), n);
            due("14 a STEP each", x.about(4), Math.min(30, n));
        }
    }

    /** "Or beyond 9999 (nothing is done then)", "at 9999 none can pass". */
    static void promise14Beyond9999() {
        for (int left : new int[] {0, 1, 2, 59, 60, 61}) {
            for (int n : new int[] {1, 2, 3, 59, 60}) {
                if (n > left) {
                    Edge.refused("14 hour(" + n + ") with " + left + " left", () -> Lands.hoursLeft(left), x -> x.hour(n), -1);
                } else {
                    ThumbHedges x = Lands.hoursLeft(left);
                    due("14 hour(" + n + ") with " + left + " left", x.hour(n), 0);
                    due("14 HOUR", x.is(0), 9999 - left + n);
                }
            }
        }
    }

    /** At CELL 12 with this WAY; the turns that are barred, from the right on. */
    private static ThumbHedges barred(int way, int many) {
        int[] hedges = {27, 10, 32, 9};
        int[] tried = {1, 0, 3, 2};
        ThumbHedges x = new ThumbHedges();
        x.cow(12, way);
        for (int i = 0; i < many; i++) {
            x.plant(hedges[(way + tried[i]) % 4]);
        }
        return x;
    }

    /** "The WAY to its right (1 more, 4 is 0), its WAY, the one to its left, the one back": from each WAY. */
    static void promise14WaysWrap() {
        int[][] due = {{1, 0, 3, 2}, {2, 1, 0, 3}, {3, 2, 1, 0}, {0, 3, 2, 1}};
        int[] cells = {7, 13, 17, 11};
        for (int way = 0; way < 4; way++) {
            for (int many = 0; many < 4; many++) {
                ThumbHedges x = barred(way, many);
                due("14 hour", x.hour(1), 0);
                due("14 WAY " + way + ", " + many + " barred: its CELL", x.of(0, 0), cells[due[way][many]]);
                due("14 WAY " + way + ", " + many + " barred: its WAY", x.of(0, 1), due[way][many]);
            }
        }
    }

    /** "(none: it stays)", and keeps its WAY. */
    static void promise14ItStays() {
        for (int way = 0; way < 4; way++) {
            ThumbHedges x = barred(way, 4);
            due("14 hour", x.hour(1), 0);
            due("14 it stays", x.of(0, 0), 12);
            due("14 its WAY", x.of(0, 1), way);
            due("14 HOUR", x.is(0), 1);
            due("14 a STEP", x.about(4), 5);
        }
    }

    /** On a GATE, none open: it doesn't come there, and is not home. */
    static void promise14StaysOnAGate() {
        ThumbHedges x = Lands.walled();
        x.cow(0, 0);
        x.gate(0, true);
        due("14 hour", x.hour(1), 0);
        due("14 it stays", x.of(0, 0), 0);
        due("14 nothing of it written down", x.ledger(1), 0);
    }

    /** At the rim: the first of the four that is open. */
    static void promise14AtTheRim() {
        int[] cells = {0, 4, 20, 24};
        int[][] due = {{1, 2, 2, 2}, {3, 2, 3, 3}, {1, 1, 1, 0}, {0, 0, 3, 0}};
        int[] more = {-5, 1, 5, -1};
        for (int i = 0; i < 4; i++) {
            for (int way = 0; way < 4; way++) {
                ThumbHedges x = new ThumbHedges();
                x.cow(cells[i], way);
                x.hour(1);
                due("14 CELL " + cells[i] + ", WAY " + way, x.of(0, 1), due[i][way]);
                due("14 its CELL", x.of(0, 0), cells[i] + more[due[i][way]]);
            }
        }
    }

    /** "goes saying more than 0." */
    static void promise14GoesMoreThanNothing() {
        String[] laws = {"-99", "-1", "0", "1", "99"};
        for (int i = 0; i < 5; i++) {
            ThumbHedges x = new ThumbHedges();
            x.cow(12, 0);
            Check.text(x, "goes " + laws[i] + ";");
            x.by(0);
            x.hour(1);
            due("14 goes " + laws[i], x.of(0, 0), i < 3 ? 12 : 13);
            due("14 HOUR", x.is(0), 1);
        }
    }

    /** "How many COWS come home in them": none, one, all five, over many HOURS. */
    static void promise14HowManyComeHome() {
        ThumbHedges x = new ThumbHedges();
        for (int i = 0; i < 5; i++) {
            x.cow(6 + i % 3, 0);
        }
        due("14 no GATE", x.hour(1), 0);
        x.undo();
        x.gate(9, true);
        due("14 at CELL 8", x.hour(1), 1);
        due("14 home", x.of(2, 0), -1);
        due("14 no more", x.hour(1), 0);
        x.undo();
        x.undo();
        ThumbHedges y = new ThumbHedges();
        y.gate(1, true);
        for (int i = 0; i < 5; i++) {
            y.cow(0, 0);
        }
        due("14 all", y.hour(1), 5);
        due("14 none is left", y.hour(60), 0);
        for (int i = 0; i < 5; i++) {
            due("14 by number: HOUR", y.book(i, 0), 0);
            due("14 by number: a COW", y.book(i, 1), 1);
            due("14 by number: which", y.book(i, 2), i);
        }
        overManyHours();
    }

    /** Three COWS in the eastern column, which is hedged off: one, two and four steps from its GATE; no frost. */
    private static ThumbHedges homeward() {
        ThumbHedges x = new ThumbHedges();
        x.gate(4, true);
        x.cow(9, 0);
        x.cow(14, 0);
        x.cow(24, 0);
        for (int hedge : new int[] {7, 11, 15, 19}) {
            x.plant(hedge);
        }
        Check.text(x, "frosts 0;");
        x.by(0);
        return x;
    }

    private static void overManyHours() {
        ThumbHedges x = homeward();
        due("14 in one", x.hour(1), 1);
        due("14 in two more", x.hour(2), 1);
        due("14 in one more", x.hour(1), 1);
        due("14 HOURS of the BOOK", x.book(0, 0) * 100 + x.book(1, 0) * 10 + x.book(2, 0), 13);
    }

    /** A COW that comes home is out of what the HOUR asks later; one told on a GATE goes first. */
    static void promise14HomeAlready() {
        ThumbHedges x = new ThumbHedges();
        x.gate(1, true);
        x.cow(0, 0);
        due("14 home", x.go(0, 1), 1);
        due("14 comes no more", x.hour(60), 0);
        due("14 home", x.of(0, 0), -1);
        due("14 its WAY", x.of(0, 1), 1);
        due("14 nothing written down", x.book(-1, 0), 0);
    }

    /** YEARS by this SEED bring nothing (no HANDS, no COWS), and leave X where a draw by 10 is such. */
    private static ThumbHedges drawn(int seed, int hedge, int frosts) {
        ThumbHedges x = new ThumbHedges();
        x.plant(hedge);
        Check.text(x, "frosts " + frosts + ";");
        x.by(0);
        x.years(seed, 1);
        due("14 still there", x.is(4), 1);
        x.hour(1);
        return x;
    }

    /** "A draw by 10: below frosts": 0 of 0 and 1, 9 of 9 and 10, 5 of 5 and 6. */
    static void promise14BelowFrosts() {
        int[][] draws = {{21, 9, 0, 28422}, {7, 30, 9, 24879}, {18, 7, 5, 29864}};
        for (int[] draw : draws) {
            ThumbHedges x = drawn(draw[0], draw[1], draw[2]);
            due("14 drawn " + draw[2] + " of frosts " + draw[2], x.hedge(draw[1], 0), 1);
            due("14 two draws", x.is(1), draw[3]);
            due("14 nothing written down", x.book(-1, 0), 0);
            ThumbHedges y = drawn(draw[0], draw[1], draw[2] + 1);
            due("14 drawn " + draw[2] + " of frosts one more", y.hedge(draw[1], 0), 0);
            due("14 two draws", y.is(1), draw[3]);
            due("14 written down", y.book(0, 0) * 100 + y.book(0, 1) * 50 + y.book(0, 2), draw[1]);
        }
    }

    /** "Is that HEDGE there, a draw by 10": without it there is one draw alone. */
    static void promise14OneDrawOrTwo() {
        ThumbHedges x = new ThumbHedges();
        x.hour(1);
        due("14 not there: one draw", x.is(1), 9852);
        ThumbHedges y = new ThumbHedges();
        y.plant(10);
        y.plant(12);
        y.hour(1);
        due("14 those beside it are not it", y.is(1), 9852);
        due("14 both there", y.is(4), 2);
        ThumbHedges z = new ThumbHedges();
        z.plant(11);
        z.hour(1);
        due("14 there: two draws", z.is(1), 20802);
    }

    /** "mod 30817": X comes to 0 and to 30816, and goes on from there. */
    static void promise14XAtItsEnds() {
        ThumbHedges x = new ThumbHedges();
        x.years(8928, 1);
        due("16 X", x.is(1), 13544);
        x.hour(1);
        due("14 the highest X", x.is(1), 30816);
        x.plant(16);
        x.hour(1);
        due("14 two draws from it", x.is(1), anew(30687));
        due("14 drawn 7 of 3", x.hedge(16, 0), 1);
        // SEED 6659: X is 13649 (6 of 7: an HOUR), then 0: HEDGE 0 is drawn, then 457: 7 of 10.
        for (int frosts = 7; frosts <= 8; frosts++) {
            ThumbHedges y = new ThumbHedges();
            Check.text(y, "frosts " + frosts + ";");
            y.by(0);
            y.plant(0);
            due("16 an HOUR", y.years(6659, 1), 1);
            due("14 the lowest X draws HEDGE 0", y.hedge(0, 0), frosts == 7 ? 1 : 0);
            due("14 two draws from it", y.is(1), anew(457));
        }
        ThumbHedges z = new ThumbHedges();
        z.years(6659, 1);
        due("14 one draw from 0", z.is(1), 457);
    }

    /** The frost of an HOUR asks the land as COWS have left it: HOUR is one more behind it alone. */
    static void promise14HourIsOneMoreThen() {
        for (int frosts = 2; frosts <= 3; frosts++) {
            ThumbHedges x = new ThumbHedges();
            Check.text(x, "frosts hour+" + frosts + ";goes hour+1;");
            x.by(0);
            x.cow(12, 0);
            x.plant(11);
            x.hour(1);
            due("14 drawn 2 of frosts " + frosts + " at HOUR 0", x.hedge(11, 0), frosts == 2 ? 1 : 0);
            due("14 goes at HOUR 0", x.of(0, 0), 13);
        }
    }
}
