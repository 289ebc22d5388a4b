/** Boundaries of promises 18 to 22 and 24: what is, and what comes. */
final class EdgesState {
    private EdgesState() {
    }

    private static void due(String call, long got, long want) {
        Check.due(call, got, want);
    }

    /** "-100 for others." */
    static void promise18Others() {
        Edge.refused("18 no COW", Lands::bare, x -> x.of(0, 0), -100);
        Edge.of("18 of(n, 0) of 2", EdgesState::cows, (x, n) -> x.of(n, 0)).from(0, 12).to(1, 24).others(-100);
        Edge.of("18 of(0, n)", EdgesState::cows, (x, n) -> x.of(0, n)).from(0, 12).to(2, 1).others(-100);
        Edge.of("18 of(1, n)", EdgesState::cows, (x, n) -> x.of(1, n)).from(0, 24).to(2, 1).others(-100);
        Edge.of("18 of(n, 1) of 5", Lands::full, (x, n) -> x.of(n, 1)).from(0, 0).to(4, 0).others(-100);
        Edge.of("18 of(n, 2) of 5", Lands::full, (x, n) -> x.of(n, 2)).from(0, 0).to(4, 0).others(-100);
    }

    private static ThumbHedges cows() {
        ThumbHedges x = new ThumbHedges();
        x.cow(12, 3);
        x.cow(24, 0);
        x.plant(7);
        return x;
    }

    /** "0 its CELL (NONE: home), 1 its WAY, 2 goes now (-100: home)." */
    static void promise18Home() {
        ThumbHedges x = new ThumbHedges();
        Check.text(x, "goes -99;");
        x.by(0);
        x.cow(1, 2);
        x.gate(0, true);
        due("18 its CELL", x.of(0, 0), 1);
        due("18 goes", x.of(0, 2), -99);
        x.go(0, 3);
        due("18 home", x.of(0, 0), -1);
        due("18 its WAY", x.of(0, 1), 3);
        due("18 goes, home", x.of(0, 2), -100);
        due("18 others", x.of(0, 3), -100);
        x.undo();
        due("18 not home", x.of(0, 0), 1);
        due("18 its WAY", x.of(0, 1), 2);
        due("18 goes", x.of(0, 2), -99);
    }

    /** "NONE for others." */
    static void promise19Others() {
        Edge.of("19 cell(n, 0)", Lands::walled, (x, n) -> x.cell(n, 0)).from(0, 2).to(24, 2).others(-1);
        Edge.of("19 cell(n, 1)", Lands::bare, (x, n) -> x.cell(n, 1)).from(0, 2 | 4).to(24, 1 | 8).others(-1);
        Edge.of("19 cell(n, 2)", Lands::ordinary, (x, n) -> x.cell(n, 2)).from(0, 0).to(24, 0).others(-1);
        Edge.of("19 cell(n, 3)", Lands::bare, (x, n) -> x.cell(n, 3)).from(0, 25).to(24, 25).others(-1);
        Edge.of("19 cell(12, n)", Lands::ordinary, (x, n) -> x.cell(12, n)).from(0, 0).to(3, 25).others(-1);
    }

    /** None around and all around; the rim is no HEDGE, and no WAY is open there. */
    static void promise19AroundAndOpen() {
        for (int cell = 0; cell < 25; cell++) {
            int open = (cell < 5 ? 0 : 1) | (cell % 5 == 4 ? 0 : 2) | (cell > 19 ? 0 : 4) | (cell % 5 == 0 ? 0 : 8);
            due("19 none around " + cell, new ThumbHedges().cell(cell, 0), 0);
            due("19 all open of " + cell, new ThumbHedges().cell(cell, 1), open);
            due("19 all around " + cell, Lands.walled().cell(cell, 0), Integer.bitCount(open));
            due("19 none open of " + cell, Lands.walled().cell(cell, 1), 0);
            due("19 itself alone", Lands.walled().cell(cell, 3), 1);
            due("19 all", Lands.snake().cell(cell, 3), 25);
        }
    }

    /** Each HEDGE is around both CELLS beside it, and bars one WAY of each. */
    static void promise19EachHedge() {
        for (int hedge = 0; hedge < 40; hedge++) {
            ThumbHedges x = new ThumbHedges();
            int a = x.hedge(hedge, 1);
            int b = x.hedge(hedge, 2);
            int way = hedge < 20 ? 1 : 2;
            int openOfA = x.cell(a, 1);
            int openOfB = x.cell(b, 1);
            x.plant(hedge);
            due("19 around " + a, x.cell(a, 0), 1);
            due("19 around " + b, x.cell(b, 0), 1);
            due("19 open of " + a, x.cell(a, 1), openOfA & ~(1 << way));
            due("19 open of " + b, x.cell(b, 1), openOfB & ~(1 << (way + 2 & 3)));
        }
    }

    /** "2 whether it has a GATE (1, 0)." */
    static void promise19Gates() {
        ThumbHedges x = new ThumbHedges();
        x.gate(0, true);
        x.gate(24, true);
        for (int cell = 0; cell < 25; cell++) {
            due("19 GATE of " + cell, x.cell(cell, 2), cell % 24 == 0 ? 1 : 0);
        }
        x.gate(24, false);
        due("19 no more", x.cell(24, 2), 0);
    }

    /** "NONE for others." */
    static void promise20Others() {
        Edge.of("20 hedge(n, 0)", Lands::walled, (x, n) -> x.hedge(n, 0)).from(0, 1).to(39, 1).others(-1);
        Edge.of("20 hedge(n, 0)", Lands::bare, (x, n) -> x.hedge(n, 0)).from(0, 0).to(39, 0).others(-1);
        Edge.of("20 hedge(n, 1)", Lands::bare, (x, n) -> x.hedge(n, 1)).from(0, 0).to(39, 19).others(-1);
        Edge.of("20 hedge(n, 2)", Lands::bare, (x, n) -> x.hedge(n, 2)).from(0, 1).to(39, 24).others(-1);
        Edge.of("20 hedge(n, 3)", Lands::ordinary, (x, n) -> x.hedge(n, 3)).from(0, 0).to(39, 10).others(-1);
        Edge.of("20 hedge(39, n)", Lands::walled, (x, n) -> x.hedge(39, n)).from(0, 1).to(3, 3).others(-1);
    }

    /** The first and the last of each row, to the east and to the south. */
    static void promise20RowsAtTheirEnds() {
        int[][] due = {{0, 0, 1}, {3, 3, 4}, {4, 5, 6}, {7, 8, 9}, {16, 20, 21}, {19, 23, 24}, {20, 0, 5}, {24, 4, 9},
            {25, 5, 10}, {35, 15, 20}, {39, 19, 24}};
        ThumbHedges x = new ThumbHedges();
        for (int[] one : due) {
            due("20 the first CELL of " + one[0], x.hedge(one[0], 1), one[1]);
            due("20 the second CELL of " + one[0], x.hedge(one[0], 2), one[2]);
        }
    }

    /** "NONE: they are not beside one another, and for others." */
    static void promise21Others() {
        Edge.of("21 between(n, 1)", Lands::ordinary, (x, n) -> x.between(n, 1)).from(0, 0).to(24, -1).others(-1);
        Edge.of("21 between(n, 23)", Lands::ordinary, (x, n) -> x.between(n, 23)).from(0, -1).to(24, 19).others(-1);
        Edge.of("21 between(5, n)", Lands::ordinary, (x, n) -> x.between(5, n)).from(0, 20).to(24, -1).others(-1);
        Edge.of("21 between(19, n)", Lands::ordinary, (x, n) -> x.between(19, n)).from(0, -1).to(24, 39).others(-1);
        Edge.refused("21 both beyond", Lands::bare, x -> x.between(25, 26), -1);
        Edge.refused("21 both below", Lands::bare, x -> x.between(-1, -2), -1);
        Edge.refused("21 beyond the rim", Lands::bare, x -> x.between(24, 29), -1);
        Edge.refused("21 beyond the rim", Lands::bare, x -> x.between(0, -5), -1);
        Edge.refused("21 NONE and the first", Lands::bare, x -> x.between(-1, 0), -1);
        for (int a = -10; a < 35; a++) {
            ThumbHedges x = new ThumbHedges();
            for (int b = -10; b < 35; b++) {
                boolean cells = a >= 0 && a < 25 && b >= 0 && b < 25;
                due("21 between(" + a + ", " + b + ")", cells ? -1 : x.between(a, b), -1);
            }
        }
    }

    /** All pairs: a row's end is not beside the next row's begin, a CELL not beside itself; "(there or not)". */
    static void promise21AllPairs() {
        int found = 0;
        for (int a = 0; a < 25; a++) {
            ThumbHedges bare = new ThumbHedges();
            ThumbHedges walled = Lands.walled();
            for (int b = 0; b < 25; b++) {
                boolean beside = Math.abs(a / 5 - b / 5) + Math.abs(a % 5 - b % 5) == 1;
                int low = Math.min(a, b);
                int hedge = Math.abs(a - b) == 5 ? 20 + low : 4 * (low / 5) + low % 5;
                due("21 between(" + a + ", " + b + ")", bare.between(a, b), beside ? hedge : -1);
                due("21 between(" + a + ", " + b + ") of walls", walled.between(a, b), beside ? hedge : -1);
                found += beside ? 1 : 0;
            }
        }
        due("21 each HEDGE from both sides", found, 80);
    }

    /** "-2 for others." */
    static void promise22Others() {
        Edge.of("22 is(n)", Lands::bare, (x, n) -> x.is(n)).from(0, 0).to(4, 0).others(-2);
        Edge.of("22 is(n)", Lands::walled, (x, n) -> x.is(n)).from(0, 0).to(4, 40).others(-2);
    }

    /** "HEDGES to the east (bits), 3 to the south (bits)": none, one at each end, all. */
    static void promise22Bits() {
        ThumbHedges x = new ThumbHedges();
        for (int hedge = 0; hedge < 40; hedge++) {
            x.plant(hedge);
            due("22 east", x.is(2), hedge < 20 ? (1 << hedge + 1) - 1 : Edge.FULL);
            due("22 south", x.is(3), hedge < 20 ? 0 : (1 << hedge - 19) - 1);
            due("22 how many", x.is(4), hedge + 1);
        }
        for (int hedge = 0; hedge < 40; hedge++) {
            x.cut(hedge);
            due("22 how many", x.is(4), 39 - hedge);
        }
        due("22 none to the east", x.is(2), 0);
        due("22 none to the south", x.is(3), 0);
    }

    /** HOUR at its ends. */
    static void promise22HourAtItsEnds() {
        due("22 at first", new ThumbHedges().is(0), 0);
        due("22 the last but one", Lands.hoursLeft(1).is(0), 9998);
        due("22 the last", Lands.last().is(0), 9999);
    }

    /** "-2 for others": n 1 .. 60, COWS that are told. */
    static void promise24Others() {
        Edge.refused("24 no COW", Lands::bare, x -> x.foretold(1, 0), -2);
        Edge.of("24 foretold(n, 0)", EdgesState::round, (x, n) -> x.foretold(n, 0)).from(1, 17).to(60, 12).others(-2);
        Edge.of("24 foretold(1, n)", EdgesState::round, (x, n) -> x.foretold(1, n)).from(0, 17).to(1, 1).others(-2);
        Edge.of("24 foretold(60, n)", EdgesState::round, (x, n) -> x.foretold(60, n)).from(0, 12).to(1, 0).others(-2);
    }

    /** Two COWS on bare land that go round by fours. */
    private static ThumbHedges round() {
        ThumbHedges x = new ThumbHedges();
        x.cow(12, 1);
        x.cow(0, 0);
        x.plant(39);
        x.cut(39);
        return x;
    }

    /** Nothing is otherwise by it, though COWS come home and HEDGES freeze in what is foretold. */
    static void promise24ChangesNothing() {
        ThumbHedges x = Lands.ordinary();
        for (int n = 1; n <= 60; n++) {
            int first = x.foretold(n, 0);
            int second = x.foretold(n, 1);
            ThumbHedges y = Lands.ordinary();
            y.hour(n);
            due("24 foretold(" + n + ", 0)", first, y.of(0, 0));
            due("24 foretold(" + n + ", 1)", second, y.of(1, 0));
        }
    }

    /** "NONE: home": it is already, it comes in the last of the HOURS, one less isn't enough. */
    static void promise24Home() {
        ThumbHedges x = new ThumbHedges();
        x.cow(24, 0);
        x.gate(4, true);
        x.plant(7);
        x.plant(11);
        x.plant(15);
        x.plant(19);
        Check.text(x, "frosts 0;");
        x.by(0);
        due("24 in three", x.foretold(3, 0), 9);
        due("24 in four", x.foretold(4, 0), -1);
        due("24 in sixty", x.foretold(60, 0), -1);
        x.hour(4);
        due("24 it is", x.foretold(1, 0), -1);
    }

    /** "(1 .. 60; those that can pass)". */
    static void promise24ThoseThatCanPass() {
        int[] cells = {12, 17, 16, 11};
        for (int left : new int[] {0, 1, 2, 3, 59, 60, 61}) {
            for (int n : new int[] {1, 2, 3, 4, 59, 60}) {
                ThumbHedges x = Lands.hoursLeft(left);
                int hours = 9999 - left + Math.min(n, left);
                due("24 foretold(" + n + ", 0) with " + left + " left", x.foretold(n, 0), cells[hours % 4]);
                due("24 HOUR", x.is(0), 9999 - left);
            }
        }
    }
}
