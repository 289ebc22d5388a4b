/** Boundaries of promises 38 to 44: hands turned, unlike, the owner, twins, kinds, selves, where to look. */
final class EdgesHands {
    private EdgesHands() {
    }

    private static void due(String call, long got, long want) {
        Check.due(call, got, want);
    }

    private static ThumbHedges withHands(int... halves) {
        ThumbHedges x = new ThumbHedges();
        for (int i = 0; i < halves.length; i += 2) {
            x.hand(halves[i], halves[i + 1]);
        }
        return x;
    }

    /** "NONE for others": HANDS that are told, turns 0 .. 7. */
    static void promise38Others() {
        Edge.refused("38 no HAND", Lands::bare, x -> x.turned(0, 0, false), -1);
        Edge.of("38 turned(n, 0, false) of 2", Lands::ordinary, (x, n) -> x.turned(n, 0, false)).from(0, 33).to(1, 3)
                .others(-1);
        Edge.of("38 turned(n, 0, true) of 4", Lands::full, (x, n) -> x.turned(n, 0, true)).from(0, Edge.FULL)
                .to(3, Lands.SNAKE).others(-1);
        Edge.of("38 turned(2, n, false)", Lands::full, (x, n) -> x.turned(2, n, false)).from(0, 1).to(7, 0).others(-1);
        Edge.of("38 turned(2, n, true)", Lands::full, (x, n) -> x.turned(2, n, true)).from(0, 0).to(7, 1).others(-1);
    }

    /** An empty HAND and a full one are as they are by any turn; one HEDGE stays one. */
    static void promise38EmptyAndFull() {
        ThumbHedges x = withHands(0, 0, Edge.FULL, Edge.FULL, Edge.FULL, 0);
        for (int turn = 0; turn < 8; turn++) {
            due("38 empty, east", x.turned(0, turn, false), 0);
            due("38 empty, south", x.turned(0, turn, true), 0);
            due("38 full, east", x.turned(1, turn, false), Edge.FULL);
            due("38 full, south", x.turned(1, turn, true), Edge.FULL);
            due("38 columns, east", x.turned(2, turn, false), turn % 2 == 0 ? Edge.FULL : 0);
            due("38 columns, south", x.turned(2, turn, true), turn % 2 == 0 ? 0 : Edge.FULL);
        }
        for (int hedge = 0; hedge < 40; hedge++) {
            ThumbHedges one = withHands(hedge < 20 ? 1 << hedge : 0, hedge < 20 ? 0 : 1 << hedge - 20);
            for (int turn = 0; turn < 8; turn++) {
                int east = one.turned(0, turn, false);
                int south = one.turned(0, turn, true);
                due("38 one alone", Integer.bitCount(east) + Integer.bitCount(south), 1);
                due("38 to the east or to the south", Integer.bitCount(east), hedge < 20 == (turn % 2 == 0) ? 1 : 0);
            }
        }
    }

    /** "0 .. 3: that many quarters to the right; 4 .. 7: first seen in a mirror": the corners' HEDGES. */
    static void promise38CornersTurned() {
        int[][] due = {{0, 24, 19, 35, 3, 39, 16, 20}, {39, 16, 20, 3, 35, 0, 24, 19}};
        ThumbHedges x = withHands(1, 0, 0, 1 << 19);
        for (int hand = 0; hand < 2; hand++) {
            for (int turn = 0; turn < 8; turn++) {
                int hedge = due[hand][turn];
                due("38 east " + turn, x.turned(hand, turn, false), hedge < 20 ? 1 << hedge : 0);
                due("38 south " + turn, x.turned(hand, turn, true), hedge < 20 ? 0 : 1 << hedge - 20);
            }
        }
    }

    /** "NONE for others." */
    static void promise39Others() {
        Edge.refused("39 no HAND", Lands::bare, x -> x.unlike(0, false), -1);
        Edge.refused("39 no HAND", Lands::bare, x -> x.unlike(0, true), -1);
        Edge.of("39 unlike(n, false)", EdgesHands::oneOff, (x, n) -> x.unlike(n, false)).from(0, 1).to(1, 3).others(-1);
        Edge.of("39 unlike(n, true)", EdgesHands::oneOff, (x, n) -> x.unlike(n, true)).from(0, 2).to(1, 2).others(-1);
    }

    /** HEDGES 5, 19 on the land; HANDS of HEDGE 0, and of HEDGES 0, 3 and 8. */
    private static ThumbHedges oneOff() {
        ThumbHedges x = withHands(1, 0, 1 | 1 << 3 | 1 << 8, 0);
        x.plant(19);
        x.plant(5);
        return x;
    }

    /** "How many": 0 at least, 40 at most. */
    static void promise39HowMany() {
        ThumbHedges x = withHands(0, 0, Edge.FULL, Edge.FULL);
        due("39 empty on bare land", x.unlike(0, false), 0);
        due("39 full on bare land", x.unlike(1, false), 40);
        x.plant(0);
        due("39 empty, one there", x.unlike(0, false), 1);
        due("39 full, one there", x.unlike(1, false), 39);
        x.press(1, 0);
        due("39 empty, all there", x.unlike(0, false), 40);
        due("39 full, all there", x.unlike(1, false), 0);
    }

    /** "Which turn; of like ones the lowest": each turn of a HAND without symmetry, and of one with. */
    static void promise39TheLowestTurn() {
        for (int turn = 0; turn < 8; turn++) {
            ThumbHedges x = withHands(1, 0, 1 | 1 << 3, 0, 1 | 1 << 19, 0, Edge.FULL, Edge.FULL);
            int[] lowest = {turn, turn < 4 ? turn : turn - 4, turn < 4 ? turn % 2 : 4 + turn % 2, 0};
            for (int hand = 0; hand < 4; hand++) {
                x.press(hand, turn);
                due("39 as pressed", x.unlike(hand, false), 0);
                due("39 the lowest turn", x.unlike(hand, true), lowest[hand]);
            }
        }
        ThumbHedges y = withHands(1, 0);
        due("39 all are one off: the lowest", y.unlike(0, true), 0);
        y.plant(19);
        y.plant(24);
        due("39 two are one off: the lower", y.unlike(0, true), 1);
        due("39 one off", y.unlike(0, false), 1);
    }

    /** "NONE: none, and for others (0 .. 40)." */
    static void promise40Others() {
        Edge.of("40 owner(n)", Lands::bare, (x, n) -> x.owner(n)).from(0, -1).to(40, -1).others(-1);
        Edge.of("40 owner(n)", () -> withHands(0, 0), (x, n) -> x.owner(n)).from(0, 0).to(40, 0).others(-1);
        Edge.of("40 owner(n)", Lands::ordinary, (x, n) -> x.owner(n)).from(0, -1).to(40, 1).others(-1);
    }

    /** "err at most": as many, and one less. */
    static void promise40ErrAtMost() {
        for (int unlike = 0; unlike <= 40; unlike++) {
            ThumbHedges x = new ThumbHedges();
            x.hand(unlike < 20 ? (1 << unlike) - 1 : Edge.FULL, unlike < 20 ? 0 : (1 << unlike - 20) - 1);
            due("40 unlike", x.unlike(0, false), unlike);
            due("40 err " + unlike, x.owner(unlike), 0);
            due("40 one less", x.owner(unlike - 1), -1);
            due("40 one more", x.owner(unlike + 1), unlike == 40 ? -1 : 0);
        }
    }

    /** "The HAND that is least UNLIKE .. of like ones the lowest." */
    static void promise40TheLowest() {
        ThumbHedges x = withHands(7, 0, 3, 0, 1, 0, 2, 0);
        due("40 two alike, the lower", x.owner(40), 2);
        due("40 err 1", x.owner(1), 2);
        due("40 none so like", x.owner(0), -1);
        x.press(3, 0);
        due("40 the last", x.owner(0), 3);
        due("40 still, though others are within", x.owner(40), 3);
        x.press(0, 5);
        due("40 the first", x.owner(40), 0);
    }

    /** "NONE: they are none, and for others", "(unlike by number)". */
    static void promise41Others() {
        Edge.refused("41 no HANDS", Lands::bare, x -> x.twins(0, 1), -1);
        Edge.of("41 twins(n, 1)", EdgesHands::alike, (x, n) -> x.twins(n, 1)).from(0, 2).to(3, 0).others(-1);
        Edge.of("41 twins(3, n)", EdgesHands::alike, (x, n) -> x.twins(3, n)).from(0, 2).to(2, -1).others(-1);
        Edge.refused("41 not told yet", () -> withHands(1, 0), x -> x.twins(0, 1), -1);
        Edge.refused("41 not told yet", () -> withHands(1, 0), x -> x.twins(1, 0), -1);
        Edge.refused("41 neither", () -> withHands(1, 0), x -> x.twins(1, 2), -1);
    }

    /** HEDGE 0; HEDGE 19; HEDGES 0 and 1; HEDGE 19 again. */
    private static ThumbHedges alike() {
        return withHands(1, 0, 1 << 19, 0, 3, 0, 1 << 19, 0);
    }

    /** With itself no HAND is a TWIN, though it is as it is by turn 0. */
    static void promise41Itself() {
        ThumbHedges x = alike();
        for (int hand = 0; hand < 4; hand++) {
            due("41 itself", x.twins(hand, hand), -1);
        }
        due("41 alike, by number another", x.twins(1, 3), 0);
        due("41 alike, by number another", x.twins(3, 1), 0);
        due("41 none", x.twins(0, 2), -1);
        due("41 none", x.twins(2, 0), -1);
    }

    /** "The lowest turn", of which "the first turned is the second": each turn, there and back. */
    static void promise41TheLowestTurn() {
        int[] back = {0, 3, 2, 1, 4, 5, 6, 7};
        for (int turn = 0; turn < 8; turn++) {
            ThumbHedges x = withHands(1, 0);
            x.hand(x.turned(0, turn, false), x.turned(0, turn, true));
            due("41 by turn " + turn, x.twins(0, 1), turn);
            due("41 back", x.twins(1, 0), back[turn]);
        }
        ThumbHedges y = withHands(Edge.FULL, Edge.FULL, Edge.FULL, Edge.FULL, 0, 0, 0, 0);
        due("41 by all turns: the lowest", y.twins(0, 1), 0);
        due("41 empty ones", y.twins(2, 3), 0);
        due("41 full and empty", y.twins(0, 2), -1);
        ThumbHedges z = withHands(1 | 1 << 3, 0, 1 << 16 | 1 << 19, 0);
        due("41 by 2 and 6: the lower", z.twins(0, 1), 2);
    }

    /** From no kind to four. */
    static void promise42FromNoneToFour() {
        ThumbHedges x = new ThumbHedges();
        due("42 none", x.kinds(), 0);
        x.hand(1, 0);
        due("42 one", x.kinds(), 1);
        x.hand(1, 0);
        due("42 the same", x.kinds(), 1);
        x.hand(0, 1);
        due("42 turned", x.kinds(), 1);
        x.hand(1 << 3, 0);
        due("42 in a mirror", x.kinds(), 1);
        due("42 four", withHands(0, 0, 1, 0, 2, 0, Edge.FULL, 0).kinds(), 4);
        due("42 the first and the last", withHands(1, 0, 2, 0, 4, 4, 1 << 19, 0).kinds(), 3);
        due("42 by twos", withHands(1, 0, 3, 0, 1 << 3, 0, 1 << 19 | 1 << 18, 0).kinds(), 2);
        Edge.refused("42 changes nothing", Lands::ordinary, y -> y.kinds(), 2);
    }

    /** "NONE for others." */
    static void promise43Others() {
        Edge.refused("43 no HAND", Lands::bare, x -> x.selves(0), -1);
        Edge.of("43 selves(n) of 1", () -> withHands(1, 0), (x, n) -> x.selves(n)).from(0, 1).to(0, 1).others(-1);
        Edge.of("43 selves(n) of 4", Lands::full, (x, n) -> x.selves(n)).from(0, 8).to(3, 2).others(-1);
    }

    /** "(itself, too)": 1, 2, 4 and 8. */
    static void promise43FromOneToEight() {
        ThumbHedges x = withHands(1, 0, 1 | 1 << 3, 0, 1 | 1 << 19, 1 << 4 | 1 << 15, 0, 0);
        due("43 itself alone", x.selves(0), 1);
        due("43 a mirror", x.selves(1), 2);
        due("43 quarters", x.selves(2), 4);
        due("43 empty", x.selves(3), 8);
        ThumbHedges y = withHands(Edge.FULL, Edge.FULL, Edge.FULL, 0, 1 | 1 << 19, 0, 1 | 1 << 19, 1 << 0 | 1 << 19);
        due("43 full", y.selves(0), 8);
        due("43 columns", y.selves(1), 4);
        due("43 a half turn", y.selves(2), 2);
        due("43 by the slant", y.selves(3), 4);
    }

    /** "NONE: none, and for others (0 .. 40)." */
    static void promise44Others() {
        Edge.of("44 look(n)", Lands::bare, (x, n) -> x.look(n)).from(0, -1).to(40, -1).others(-1);
        Edge.of("44 look(n)", () -> withHands(0, 0), (x, n) -> x.look(n)).from(0, 0).to(40, 0).others(-1);
        Edge.of("44 look(n)", Lands::ordinary, (x, n) -> x.look(n)).from(0, -1).to(40, 0).others(-1);
    }

    /** "None (none such, or one)": none, one, two. */
    static void promise44NoneSuchOrOne() {
        ThumbHedges x = withHands(1, 0);
        due("44 none such", x.look(0), -1);
        due("44 all eight", x.look(1), 0);
        x.press(0, 2);
        due("44 one", x.look(0), -1);
        due("44 still one", x.look(1), -1);
        due("44 all eight", x.look(2), 0);
        x.hand(1, 0);
        due("44 two, though alike", x.look(0), 0);
        ThumbHedges y = withHands(1 | 1 << 3, 0);
        due("44 none such", y.look(1), -1);
        y.press(0, 0);
        due("44 one HAND by two turns", y.look(0), 0);
    }

    /** "err at most": as many, and one less. */
    static void promise44ErrAtMost() {
        ThumbHedges x = withHands(Edge.FULL, Edge.FULL);
        due("44 40", x.look(40), 0);
        due("44 39", x.look(39), -1);
        x.plant(7);
        due("44 39, one there", x.look(39), 0);
        due("44 38", x.look(38), -1);
    }

    /** "The most that can be left .. are fewest; of like ones the lowest." */
    static void promise44PartsBest() {
        // HEDGE 0 comes to another place by each of the eight turns: any of these leaves seven, others leave eight.
        due("44 the lowest of eight", withHands(1, 0).look(40), 0);
        due("44 1 leaves seven, 0 would leave eight", withHands(2, 0).look(40), 1);
        // HEDGE 9 (CELLS 11, 12) comes to 9, 27, 10, 32, each by two turns.
        due("44 9 leaves six", withHands(1 << 9, 0).look(40), 9);
        due("44 where it is not, likewise", withHands(Edge.FULL & ~(1 << 9), Edge.FULL).look(40), 9);
        due("44 two of sixteen", withHands(0, 0, 1 << 9, 0).look(40), 9);
        // Four turns have all HEDGES to the east, four all to the south.
        due("44 halves: the lowest", withHands(Edge.FULL, 0).look(40), 0);
        // All eight places of HEDGE 4 at once: all turns of this HAND have each of them.
        int ring = 1 << 4 | 1 << 7 | 1 << 12 | 1 << 15;
        due("44 halves: the lowest", withHands(0, 0, ring, 1 << 1 | 1 << 3 | 1 << 16 | 1 << 18).look(40), 4);
    }

    /** The best HEDGE may be the last one, and may be one that is there on the land or not. */
    static void promise44TheLastHedge() {
        // The two HANDS are alike but for HEDGE 39, and no other turn of either is so near the land.
        ThumbHedges x = withHands(5, 1 << 19, 5, 0);
        x.press(0, 0);
        due("44 the two part by 39 alone", x.look(1), 39);
        due("44 one alone", x.look(0), -1);
        x.cut(39);
        due("44 the two part by 39 alone", x.look(1), 39);
    }
}
