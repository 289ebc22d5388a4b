/** Boundaries of promises 25 to 29 and 34 to 36: ways, paths, walks, home. */
final class EdgesWays {
    private EdgesWays() {
    }

    private static void due(String call, long got, long want) {
        Check.due(call, got, want);
    }

    private static int apart(int a, int b) {
        return Math.abs(a / 5 - b / 5) + Math.abs(a % 5 - b % 5);
    }

    /** "NONE: no way, and for others." */
    static void promise25Others() {
        Edge.of("25 miles(n, 24)", Lands::bare, (x, n) -> x.miles(n, 24)).from(0, 8).to(24, 0).others(-1);
        Edge.of("25 miles(0, n)", Lands::bare, (x, n) -> x.miles(0, n)).from(0, 0).to(24, 8).others(-1);
        Edge.of("25 miles(n, 7)", Lands::ordinary, (x, n) -> x.miles(n, 7)).from(0, 3).to(24, 5).others(-1);
        Edge.refused("25 a CELL that is none, to itself", Lands::ordinary, x -> x.miles(25, 25), -1);
        Edge.refused("25 NONE, to itself", Lands::ordinary, x -> x.miles(-1, -1), -1);
    }

    /** None at all are 0 MILES, the most are 24; without a way there are none. */
    static void promise25AllPairs() {
        for (int a = 0; a < 25; a++) {
            ThumbHedges bare = new ThumbHedges();
            ThumbHedges walled = Lands.walled();
            ThumbHedges snake = Lands.snake();
            for (int b = 0; b < 25; b++) {
                due("25 open land " + a + ", " + b, bare.miles(a, b), apart(a, b));
                due("25 walled " + a + ", " + b, walled.miles(a, b), a == b ? 0 : -1);
                due("25 snake " + a + ", " + b, snake.miles(a, b), Math.abs(along(a) - along(b)));
            }
        }
    }

    /** Where a CELL lies along the snake. */
    private static int along(int cell) {
        return cell / 5 % 2 == 0 ? cell : cell / 5 * 5 + 4 - cell % 5;
    }

    /** One HEDGE is the whole way: there and not there. */
    static void promise25NoWay() {
        ThumbHedges x = Lands.snake();
        due("25 a way", x.miles(0, 24), 24);
        x.plant(10);
        due("25 no way", x.miles(0, 24), -1);
        due("25 up to it", x.miles(0, 12), 12);
        due("25 over it", x.miles(0, 13), -1);
        due("25 from the other side up to it", x.miles(24, 13), 11);
        due("25 from the other side over it", x.miles(24, 12), -1);
        x.cut(10);
        due("25 a way again", x.miles(0, 24), 24);
    }

    /** "-2: none, there is none such, and for others." */
    static void promise26Others() {
        Edge.of("26 way(n, 24, 0)", Lands::bare, (x, n) -> x.way(n, 24, 0)).from(0, 1).to(23, 1).others(-2);
        Edge.of("26 way(0, n, 0)", Lands::bare, (x, n) -> x.way(0, n, 0)).from(1, 1).to(24, 1).others(-2);
        Edge.of("26 way(0, 24, n)", Lands::bare, (x, n) -> x.way(0, 24, n)).from(0, 1).to(7, 2).others(-2);
        Edge.of("26 way(0, 24, n) of the snake", Lands::snake, (x, n) -> x.way(0, 24, n)).from(0, 1).to(23, 1).others(-2);
        Edge.of("26 way(3, 4, n)", Lands::bare, (x, n) -> x.way(3, 4, n)).from(0, 1).to(0, 1).others(-2);
        Edge.refused("26 from a CELL that is none", Lands::bare, x -> x.way(25, 24, 0), -2);
        Edge.refused("26 NONE to itself", Lands::bare, x -> x.way(-1, -1, 0), -2);
    }

    /** "(to itself none)", and none where there is no way. */
    static void promise26ToItselfNone() {
        for (int cell = 0; cell < 25; cell++) {
            ThumbHedges x = new ThumbHedges();
            for (int i = -1; i < 2; i++) {
                due("26 way(" + cell + ", " + cell + ", " + i + ")", x.way(cell, cell, i), -2);
            }
            due("26 no way", Lands.walled().way(cell, cell == 0 ? 1 : 0, 0), -2);
        }
    }

    /** "Of like ones the lowest first step, then the next": to all CELLS around. */
    static void promise26TheLowest() {
        ThumbHedges x = new ThumbHedges();
        int[] cells = {0, 4, 20, 24};
        int[][] steps = {{0, 0, 3, 3}, {0, 0, 1, 1}, {2, 2, 3, 3}, {1, 1, 2, 2}};
        for (int k = 0; k < 4; k++) {
            for (int i = 0; i < 4; i++) {
                due("26 way(12, " + cells[k] + ", " + i + ")", x.way(12, cells[k], i), steps[k][i]);
            }
            due("26 no fifth", x.way(12, cells[k], 4), -2);
        }
        // HEDGE 0 bars the east of CELL 0: to CELL 2 the lowest step that is open is south.
        x.plant(0);
        int[] round = {2, 1, 0, 1};
        for (int i = 0; i < 4; i++) {
            due("26 round the HEDGE", x.way(0, 2, i), round[i]);
        }
        due("26 no fifth", x.way(0, 2, 4), -2);
    }

    /** Each way leads there, in as many steps as there are MILES, and none of them is barred. */
    static void promise26LeadsThere() {
        int[] more = {-5, 1, 5, -1};
        for (int i = 0; i < 625; i++) {
            ThumbHedges x = Lands.pressed(0x12345, 0x0A4C6);
            int at = i / 25;
            int miles = x.miles(at, i % 25);
            for (int k = 0; k < miles; k++) {
                int way = x.way(i / 25, i % 25, k);
                due("26 open", x.cell(at, 1) >> way & 1, 1);
                at += more[way];
            }
            due("26 there", miles < 0 || at == i % 25 ? 1 : 0, 1);
            due("26 no more", x.way(i / 25, i % 25, Math.max(0, miles)), -2);
        }
    }

    /** "NONE for others." */
    static void promise27Others() {
        Edge.of("27 cuts(n, 24)", Lands::walled, (x, n) -> x.cuts(n, 24)).from(0, 8).to(24, 0).others(-1);
        Edge.of("27 cuts(0, n)", Lands::walled, (x, n) -> x.cuts(0, n)).from(0, 0).to(24, 8).others(-1);
        Edge.refused("27 a CELL that is none, to itself", Lands::ordinary, x -> x.cuts(25, 25), -1);
    }

    /** None must be CUT where there is a way, to itself none either; one more HEDGE, one more CUT. */
    static void promise27FewestHedges() {
        ThumbHedges x = new ThumbHedges();
        due("27 open land", x.cuts(0, 24), 0);
        due("27 itself", x.cuts(5, 5), 0);
        due("27 itself, walled", Lands.walled().cuts(5, 5), 0);
        x.plant(0);
        due("27 a way round", x.cuts(0, 1), 0);
        x.plant(20);
        due("27 no way round", x.cuts(0, 1), 1);
        due("27 from there", x.cuts(24, 0), 1);
        due("27 of the others", x.cuts(1, 24), 0);
        x.plant(19);
        x.plant(39);
        due("27 both corners", x.cuts(0, 24), 2);
        // Four walls from north to south: one CUT each, wherever.
        ThumbHedges y = Lands.pressed(Edge.FULL, 0);
        due("27 four walls", y.cuts(20, 4), 4);
        due("27 in a column", y.cuts(0, 20), 0);
        due("27 the next column", y.cuts(0, 21), 1);
    }

    /** All pairs: of walls as many as they are apart, of columns and of rows as many as lie between. */
    static void promise27AllPairs() {
        for (int a = 0; a < 25; a++) {
            ThumbHedges walled = Lands.walled();
            ThumbHedges columns = Lands.pressed(Edge.FULL, 0);
            ThumbHedges rows = Lands.pressed(0, Edge.FULL);
            ThumbHedges bare = new ThumbHedges();
            for (int b = 0; b < 25; b++) {
                due("27 walls " + a + ", " + b, walled.cuts(a, b), apart(a, b));
                due("27 columns " + a + ", " + b, columns.cuts(a, b), Math.abs(a % 5 - b % 5));
                due("27 rows " + a + ", " + b, rows.cuts(a, b), Math.abs(a / 5 - b / 5));
                due("27 open land " + a + ", " + b, bare.cuts(a, b), 0);
            }
        }
    }

    /** "NONE for others." */
    static void promise28Others() {
        Edge.of("28 farthest(n)", Lands::bare, (x, n) -> x.farthest(n)).from(0, 24).to(24, 0).others(-1);
        Edge.of("28 farthest(n)", Lands::walled, (x, n) -> x.farthest(n)).from(0, 0).to(24, 24).others(-1);
    }

    /** "Of like ones the lowest"; alone it is itself. */
    static void promise28TheLowest() {
        ThumbHedges x = new ThumbHedges();
        ThumbHedges walled = Lands.walled();
        for (int cell = 0; cell < 25; cell++) {
            int best = 0;
            for (int to = 0; to < 25; to++) {
                best = apart(cell, to) > apart(cell, best) ? to : best;
            }
            due("28 farthest(" + cell + ")", x.farthest(cell), best);
            due("28 alone", walled.farthest(cell), cell);
        }
        due("28 four alike", x.farthest(12), 0);
        due("28 two alike", x.farthest(2), 20);
        due("28 two alike", x.farthest(22), 0);
    }

    /** To a CELL without a way there are no MILES: it is not the farthest. */
    static void promise28NoWay() {
        ThumbHedges x = new ThumbHedges();
        x.plant(19);
        x.plant(39);
        due("28 CELL 24 has no way", x.farthest(0), 19);
        due("28 itself", x.farthest(24), 24);
        x.cut(39);
        due("28 it has one", x.farthest(0), 24);
    }

    /** WIDE: 0 where no pair has a way, 24 at most. */
    static void promise29AtItsEnds() {
        due("29 walled", Lands.walled().wide(), 0);
        due("29 open land", new ThumbHedges().wide(), 8);
        due("29 the snake", Lands.snake().wide(), 24);
        ThumbHedges x = Lands.walled();
        x.cut(39);
        due("29 one pair", x.wide(), 1);
        x.cut(38);
        due("29 two pairs", x.wide(), 1);
        x.cut(19);
        due("29 four in a row", x.wide(), 3);
        ThumbHedges y = Lands.snake();
        y.plant(0);
        due("29 the snake without its head", y.wide(), 23);
        y.plant(10);
        due("29 each half", y.wide(), 11);
    }

    /** "NONE for others." */
    static void promise34Others() {
        Edge.of("34 paths(n, 24)", Lands::bare, (x, n) -> x.paths(n, 24)).from(0, 8512).to(24, 1).others(-1);
        Edge.of("34 paths(0, n)", Lands::bare, (x, n) -> x.paths(0, n)).from(0, 1).to(24, 8512).others(-1);
        Edge.refused("34 a CELL that is none, to itself", Lands::ordinary, x -> x.paths(25, 25), -1);
    }

    /** "(to itself 1)", none where there is no way, one where there is one. */
    static void promise34ToItselfOne() {
        ThumbHedges bare = new ThumbHedges();
        ThumbHedges walled = Lands.walled();
        ThumbHedges snake = Lands.snake();
        for (int cell = 0; cell < 25; cell++) {
            due("34 itself", bare.paths(cell, cell), 1);
            due("34 itself, walled", walled.paths(cell, cell), 1);
            due("34 no way", walled.paths(cell, (cell + 1) % 25), 0);
            due("34 one way", snake.paths(cell, 24), 1);
            due("34 one way back", snake.paths(24, cell), 1);
        }
        ThumbHedges x = Lands.walled();
        for (int hedge : new int[] {0, 20, 21, 4}) {
            x.cut(hedge);
        }
        due("34 round both ways", x.paths(0, 6), 2);
        due("34 beside, and round", x.paths(0, 1), 2);
        due("34 no way", x.paths(0, 2), 0);
    }

    /** From a CELL with all four WAYS open, and to one; as many there as back. */
    static void promise34FromTheMiddle() {
        ThumbHedges x = new ThumbHedges();
        due("34 from the middle", x.paths(12, 0), 6762);
        due("34 to the middle", x.paths(0, 12), 6762);
        due("34 to another corner", x.paths(12, 24), 6762);
        due("34 beside the middle", x.paths(12, 7), 3411);
        due("34 beside the middle", x.paths(7, 12), 3411);
    }

    /** "NONE .. for others": COWS that are told alone. */
    static void promise35Others() {
        Edge.refused("35 no COW", Lands::bare, x -> x.walk(0, false), -1);
        Edge.refused("35 no COW", Lands::bare, x -> x.walk(0, true), -1);
        Edge.of("35 walk(n, true)", EdgesWays::twoWalks, (x, n) -> x.walk(n, true)).from(0, 4).to(1, -1).others(-1);
        Edge.of("35 walk(n, false)", EdgesWays::twoWalks, (x, n) -> x.walk(n, false)).from(0, -1).to(1, 1).others(-1);
        for (int i = 0; i < 5; i++) {
            due("35 five", Lands.full().walk(i, true) >= 0 ? 1 : 0, 1);
        }
        due("35 no sixth", Lands.full().walk(5, true), -1);
    }

    private static ThumbHedges twoWalks() {
        ThumbHedges x = new ThumbHedges();
        x.cow(12, 0);
        x.cow(0, 0);
        x.gate(1, true);
        x.plant(39);
        return x;
    }

    /** "(0: it is)": home by hand, in an HOUR, and by a GATE that is no more. */
    static void promise35ItIsHome() {
        ThumbHedges x = new ThumbHedges();
        x.gate(1, true);
        x.cow(0, 0);
        due("35 in one step", x.walk(0, false), 1);
        due("35 no ring", x.walk(0, true), -1);
        x.go(0, 1);
        due("35 it is", x.walk(0, false), 0);
        due("35 no ring", x.walk(0, true), -1);
        x.gate(1, false);
        due("35 it is still", x.walk(0, false), 0);
        x.undo();
        due("35 never now", x.walk(0, false), -1);
        due("35 a ring now", x.walk(0, true), 4);
    }

    /** "(0: it can't go)", on a GATE, too. */
    static void promise35ItCantGo() {
        for (int way = 0; way < 4; way++) {
            ThumbHedges x = Lands.walled();
            x.cow(0, way);
            due("35 it can't go", x.walk(0, true), 0);
            due("35 never", x.walk(0, false), -1);
            x.gate(0, true);
            due("35 it can't go, on a GATE", x.walk(0, true), 0);
            due("35 never", x.walk(0, false), -1);
            x.cut(0);
            due("35 there and back to the GATE", x.walk(0, false), 2);
            x.gate(0, false);
            due("35 to and fro", x.walk(0, true), 2);
        }
    }

    /** The longest ring goes by each side of each open WAY; the WAY it has at first may lie ahead of it. */
    static void promise35TheLongestRing() {
        for (int i = 0; i < 100; i++) {
            ThumbHedges x = Lands.snake();
            x.cow(i / 4, i % 4);
            due("35 all along and back", x.walk(0, true), 48);
            due("35 never", x.walk(0, false), -1);
        }
        // By the outer hedge alone: 16 CELLS of the rim, from CELL 4 with WAY 3 or from CELL 1 with WAY 3.
        ThumbHedges x = new ThumbHedges();
        x.cow(1, 3);
        due("35 right is the rim", x.walk(0, true), 16);
        x.cow(1, 1);
        due("35 right is open", x.walk(1, true), 4);
    }

    /** "In how many steps it is home": each along the snake, up to all of it there and back. */
    static void promise35StepsHome() {
        int[] cells = {0, 1, 2, 3, 4, 9, 8, 7, 6, 5};
        for (int i = 1; i < 10; i++) {
            ThumbHedges x = Lands.snake();
            x.cow(cells[i], 3);
            x.gate(0, true);
            int back = i <= 5 ? i : 24 - i + 24;
            due("35 steps from " + cells[i], x.walk(0, false), back);
            due("35 it comes home", x.walk(0, true), -1);
        }
        ThumbHedges x = Lands.snake();
        x.cow(0, 1);
        x.gate(0, true);
        due("35 from the GATE, and back to it", x.walk(0, false), 48);
    }

    /** "Always going, no frosts": whatever laws say; and nothing is otherwise by it. */
    static void promise35AlwaysGoing() {
        ThumbHedges x = Lands.snake();
        Check.text(x, "goes -99;frosts 10;");
        x.by(0);
        x.cow(0, 1);
        x.gate(24, true);
        due("35 all along", x.walk(0, false), 24);
        due("35 it stays", x.of(0, 0), 0);
    }

    /** "NONE for others (0 .. 99)." */
    static void promise36Others() {
        Edge.of("36 home(n)", Lands::bare, (x, n) -> x.home(n)).from(0, 0).to(99, 0).others(-1);
        Edge.of("36 home(n)", EdgesWays::twoWalks, (x, n) -> x.home(n)).from(0, 0).to(99, 3).others(-1);
    }

    /** "By n MILES": one less isn't enough, also where 24 are the fewest. */
    static void promise36ByMiles() {
        ThumbHedges x = Lands.snake();
        for (int cell : new int[] {0, 4, 12, 23, 24}) {
            x.cow(cell, 0);
        }
        due("36 no GATE", x.home(99), 0);
        x.gate(24, true);
        int[] miles = {24, 20, 12, 1, 0};
        for (int n = 0; n <= 99; n++) {
            int due = 0;
            for (int i = 0; i < 5; i++) {
                due |= miles[i] <= n ? 1 << i : 0;
            }
            due("36 home(" + n + ")", x.home(n), due);
        }
        x.plant(10);
        due("36 no way", x.home(99), 8 | 16);
        x.gate(0, true);
        due("36 another GATE", x.home(4), 1 | 2 | 8 | 16);
        due("36 another GATE", x.home(3), 1 | 8 | 16);
    }

    /** "COWS that are home": without GATES, too. */
    static void promise36AreHome() {
        ThumbHedges x = new ThumbHedges();
        x.cow(12, 0);
        x.cow(1, 0);
        x.gate(0, true);
        x.go(1, 3);
        due("36 home", x.home(0), 2);
        x.gate(0, false);
        due("36 home still", x.home(0), 2);
        due("36 the other has no GATE", x.home(99), 2);
        x.undo();
        due("36 none", x.home(99), 0);
    }
}
