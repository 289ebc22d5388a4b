/** Boundaries of promises 30 to 33, 37 and 47: regions, rings, dead ends, necks, gates, the thickest. */
final class EdgesShapes {
    private static final int ALL = 0x1FFFFFF;

    private EdgesShapes() {
    }

    private static void due(String call, long got, long want) {
        Check.due(call, got, want);
    }

    /** From one REGION to 25, and from all CELLS to one. */
    static void promise30FromOneToAll() {
        due("30 one", new ThumbHedges().regions(false), 1);
        due("30 all CELLS", new ThumbHedges().regions(true), 25);
        due("30 the snake is one", Lands.snake().regions(false), 1);
        due("30 all CELLS", Lands.snake().regions(true), 25);
        due("30 25", Lands.walled().regions(false), 25);
        due("30 one CELL", Lands.walled().regions(true), 1);
        due("30 five columns", Lands.pressed(Edge.FULL, 0).regions(false), 5);
        due("30 five CELLS", Lands.pressed(Edge.FULL, 0).regions(true), 5);
        due("30 five rows", Lands.pressed(0, Edge.FULL).regions(false), 5);
    }

    /** Each HEDGE that is CUT of all joins two; the greatest need not be the first. */
    static void promise30EachHedge() {
        for (int hedge = 0; hedge < 40; hedge++) {
            ThumbHedges x = Lands.walled();
            x.cut(hedge);
            due("30 24", x.regions(false), 24);
            due("30 two CELLS", x.regions(true), 2);
        }
        ThumbHedges x = Lands.walled();
        x.cut(0);
        x.cut(19);
        x.cut(18);
        due("30 22", x.regions(false), 22);
        due("30 three CELLS", x.regions(true), 3);
    }

    /** RINGS: none of the snake and of walls, 16 of open land; one WAY more is one ring more, or a REGION less. */
    static void promise31AtItsEnds() {
        due("31 open land", new ThumbHedges().rings(), 16);
        due("31 walled", Lands.walled().rings(), 0);
        due("31 the snake", Lands.snake().rings(), 0);
        for (int hedge = 0; hedge < 40; hedge++) {
            ThumbHedges x = new ThumbHedges();
            x.plant(hedge);
            due("31 without one WAY", x.rings(), 15);
            ThumbHedges y = Lands.walled();
            y.cut(hedge);
            due("31 one WAY alone", y.rings(), 0);
        }
        for (int hedge = 20; hedge < 24; hedge++) {
            ThumbHedges x = Lands.snake();
            x.cut(hedge);
            due("31 the snake with one WAY more", x.rings(), 1);
        }
    }

    /** "With just one open WAY": not with none, not with two. */
    static void promise32JustOne() {
        due("32 open land", new ThumbHedges().ends(), 0);
        due("32 walled", Lands.walled().ends(), 0);
        due("32 the snake", Lands.snake().ends(), 1 | 1 << 24);
        for (int hedge = 0; hedge < 40; hedge++) {
            ThumbHedges x = Lands.walled();
            x.cut(hedge);
            due("32 a pair", x.ends(), 1 << x.hedge(hedge, 1) | 1 << x.hedge(hedge, 2));
        }
        ThumbHedges x = new ThumbHedges();
        x.plant(0);
        due("32 a corner with one", x.ends(), 1);
        x.plant(20);
        due("32 a corner with none", x.ends(), 0);
        due("32 columns", Lands.pressed(Edge.FULL, 0).ends(), 31 | 31 << 20);
    }

    /** "Without which two others that have a way have none": of two CELLS none is, of three the middle one. */
    static void promise33TwoOthers() {
        due("33 open land", new ThumbHedges().necks(), 0);
        due("33 walled", Lands.walled().necks(), 0);
        due("33 the snake", Lands.snake().necks(), ALL & ~1 & ~(1 << 24));
        for (int hedge = 0; hedge < 40; hedge++) {
            ThumbHedges x = Lands.walled();
            x.cut(hedge);
            due("33 a pair", x.necks(), 0);
        }
        ThumbHedges x = Lands.walled();
        x.cut(18);
        x.cut(19);
        due("33 three in a row", x.necks(), 1 << 23);
        x.cut(39);
        due("33 four", x.necks(), 1 << 23 | 1 << 24);
        x.cut(38);
        due("33 four, two in a corner", x.necks(), 1 << 23 | 1 << 24);
        x.cut(15);
        due("33 a ring and one beside it", x.necks(), 1 << 23);
        due("33 columns: all but their ends", Lands.pressed(Edge.FULL, 0).necks(), 31 << 5 | 31 << 10 | 31 << 15);
    }

    /** A ring has no neck, and with one more CELL at it has one; CELL 0 and CELL 24 can be necks, too. */
    static void promise33CornersCanBe() {
        ThumbHedges x = new ThumbHedges();
        due("33 none", x.necks(), 0);
        x.plant(0);
        due("33 the way out of CELL 0", x.necks(), 1 << 5);
        ThumbHedges y = Lands.walled();
        y.cut(0);
        y.cut(20);
        due("33 CELL 0 between two", y.necks(), 1);
        y.cut(19);
        y.cut(39);
        due("33 CELL 24, too", y.necks(), 1 | 1 << 24);
    }

    /** "NONE: no way by 4, and for others (0 .. 24)." */
    static void promise37Others() {
        Edge.of("37 gates(n, false)", Lands::snake, (x, n) -> x.gates(n, false)).from(0, -1).to(24, 1).others(-1);
        Edge.of("37 gates(n, true)", Lands::snake, (x, n) -> x.gates(n, true)).from(0, -1).to(24, 1).others(-1);
        Edge.of("37 gates(n, true)", Lands::bare, (x, n) -> x.gates(n, true)).from(0, -1).to(24, 1).others(-1);
    }

    /** "(4 at most)": four REGIONS at the rim, five, and one that has no CELL of the rim. */
    static void promise37FourAtMost() {
        ThumbHedges four = Lands.pressed(0x77777, 0);
        due("37 four REGIONS", four.gates(24, true), 4);
        due("37 the lowest", four.gates(24, false), 15);
        ThumbHedges five = Lands.pressed(Edge.FULL, 0);
        due("37 five REGIONS", five.gates(24, true), -1);
        due("37 five REGIONS", five.gates(24, false), -1);
        ThumbHedges inner = new ThumbHedges();
        for (int hedge : new int[] {27, 10, 32, 9}) {
            due("37 a way to CELL 12", inner.gates(24, true), 1);
            inner.plant(hedge);
        }
        due("37 no way to CELL 12", inner.gates(24, true), -1);
        due("37 no way to CELL 12", inner.gates(24, false), -1);
        due("37 walled", Lands.walled().gates(24, true), -1);
    }

    /** Each number of MILES on open land: one at 24 down to one at 6, then two, three, four, none. */
    static void promise37FewestByMiles() {
        int[] many = {-1, -1, 4, 3, 2, 2, 1, 1, 1, 1};
        ThumbHedges x = new ThumbHedges();
        for (int n = 0; n < 10; n++) {
            due("37 gates(" + n + ", true)", x.gates(n, true), many[n]);
        }
        due("37 2: lower than the middle of each side", x.gates(2, false), 1 << 1 | 1 << 2 | 1 << 19 | 1 << 20);
        due("37 8: the first CELL", x.gates(8, false), 1);
        due("37 7: the next one", x.gates(7, false), 2);
        due("37 6: the middle", x.gates(6, false), 4);
    }

    /** "Of like ones the lowest set", and "of the rim" alone: the middle would be nearer. */
    static void promise37TheLowestSet() {
        ThumbHedges x = Lands.snake();
        due("37 24 MILES", x.gates(24, false), 1);
        due("37 23 MILES", x.gates(23, false), 2);
        due("37 20 MILES", x.gates(20, false), 1 << 4);
        due("37 19 MILES: CELL 9 too, but 5 is lower", x.gates(19, false), 1 << 5);
        due("37 15 MILES", x.gates(15, false), 1 << 5);
        due("37 14 MILES", x.gates(14, false), 1 << 10);
        due("37 13 MILES: CELL 12 is none of the rim", x.gates(13, true), 2);
    }

    /** GATES that are told are nothing to it. */
    static void promise37WhateverIsTold() {
        ThumbHedges x = new ThumbHedges();
        x.gate(24, true);
        due("37 as without", x.gates(24, false), 1);
        due("37 the GATE stays", x.about(7), 1 << 24);
    }

    /** "Of like ones the lowest": none around any, all around all; 2, 3 and 4 around. */
    static void promise47TheLowest() {
        due("47 none", new ThumbHedges().thickest(), 0);
        due("47 four around", Lands.walled().thickest(), 6);
        for (int hedge = 0; hedge < 40; hedge++) {
            ThumbHedges x = new ThumbHedges();
            x.plant(hedge);
            due("47 two alike", x.thickest(), x.hedge(hedge, 1));
        }
        ThumbHedges x = new ThumbHedges();
        x.plant(39);
        due("47 one around", x.thickest(), 19);
        x.plant(19);
        due("47 two around the last", x.thickest(), 24);
        x.plant(0);
        due("47 still", x.thickest(), 24);
        x.plant(20);
        due("47 two around the first", x.thickest(), 0);
        x.plant(15);
        due("47 of three with two around", x.thickest(), 0);
        x.plant(34);
        due("47 three around", x.thickest(), 19);
    }
}
