/** Boundaries of promises 1 to 4: a new object, hands, cows and gates. */
final class EdgesTold {
    private EdgesTold() {
    }

    private static void due(String call, long got, long want) {
        Check.due(call, got, want);
    }

    private static void due(String call, boolean got, boolean want) {
        Check.due(call, got, want);
    }

    /** "At first none is", "at first 0", "X: at first 331", "told; at first none". */
    static void promise01AtFirst() {
        ThumbHedges x = new ThumbHedges();
        int[] is = {0, 331, 0, 0, 0};
        for (int i = 0; i < 5; i++) {
            due("1 is(" + i + ")", x.is(i), is[i]);
        }
        int[] about = {0, 0, 0, -1, 0, 0, 0, 0};
        for (int i = 0; i < 8; i++) {
            due("1 about(" + i + ")", x.about(i), about[i]);
        }
        for (int hedge = 0; hedge < 40; hedge++) {
            due("1 hedge(" + hedge + ", 0)", x.hedge(hedge, 0), 0);
        }
        for (int cell = 0; cell < 25; cell++) {
            due("1 cell(" + cell + ", 2)", x.cell(cell, 2), 0);
        }
        due("1 book", x.book(-1, 0), 0);
        due("1 said", x.whose(), 0);
    }

    /** "THE IMAGE is this", right away and when all has been told and done. */
    static void promise01TheImage() {
        Edge.refused("1 back() of a new object", Lands::bare, x -> x.back(), 0);
        ThumbHedges x = new ThumbHedges();
        tellAll(x);
        due("1 back()", x.back(), 0);
        due("1 bare again", Edge.whatIsKept(x).equals(Edge.whatIsKept(new ThumbHedges())), true);
    }

    private static void tellAll(ThumbHedges x) {
        x.hand(5, 6);
        x.press(0, 3);
        x.cow(7, 2);
        x.gate(2, true);
        Check.text(x, "goes 1;");
        x.by(0);
        x.said(1, 2);
        x.hour(60);
        x.years(77, 40);
    }

    /** "NONE for others (bits of 20)": none is set, all are, one more is. */
    static void promise02BitsOfTwenty() {
        Edge.of("2 hand(n, 0)", Lands::bare, (x, n) -> x.hand(n, 0)).from(0, 0).to(Edge.FULL, 0).others(-1);
        Edge.of("2 hand(0, n)", Lands::bare, (x, n) -> x.hand(0, n)).from(0, 0).to(Edge.FULL, 0).others(-1);
        Edge.of("2 hand(n, 9)", Lands::ordinary, (x, n) -> x.hand(n, 9)).from(0, 2).to(Edge.FULL, 2).others(-1);
        Edge.of("2 hand(9, n)", Lands::ordinary, (x, n) -> x.hand(9, n)).from(0, 2).to(Edge.FULL, 2).others(-1);
        Edge.refused("2 both beyond", Lands::ordinary, x -> x.hand(1 << 20, 1 << 20), -1);
        Edge.refused("2 both below", Lands::ordinary, x -> x.hand(-1, -1), -1);
    }

    static void promise02EachBit() {
        for (int bit = 0; bit < 20; bit++) {
            ThumbHedges x = new ThumbHedges();
            x.hand(1 << bit, 0);
            x.hand(0, 1 << bit);
            x.press(0, 0);
            due("2 bit " + bit + " to the east", x.hedge(bit, 0), 1);
            due("2 it alone", x.is(4), 1);
            x.press(1, 0);
            due("2 bit " + bit + " to the south", x.hedge(20 + bit, 0), 1);
            due("2 it alone", x.is(4), 1);
        }
    }

    /** "Or if there are 4." */
    static void promise02ThereAreFour() {
        ThumbHedges x = new ThumbHedges();
        for (int i = 0; i < 4; i++) {
            due("2 one by one", x.hand(i, 100 + i), i);
            due("2 so many", x.about(0), i + 1);
        }
        due("2 a fifth", x.hand(9, 9), -1);
        due("2 four", x.about(0), 4);
        for (int i = 0; i < 4; i++) {
            due("2 as told, east", x.turned(i, 0, false), i);
            due("2 as told, south", x.turned(i, 0, true), 100 + i);
        }
        Edge.refused("2 a fifth", Lands::full, y -> y.hand(0, 0), -1);
        Edge.refused("2 a fifth that is none", Lands::full, y -> y.hand(-1, 0), -1);
        x.back();
        due("2 none again: a first", x.hand(9, 9), 0);
    }

    /** "NONE for others": CELLS 0 .. 24, WAYS 0 .. 3. */
    static void promise03Others() {
        Edge.of("3 cow(n, 0)", Lands::bare, (x, n) -> x.cow(n, 0)).from(0, 0).to(24, 0).others(-1);
        Edge.of("3 cow(0, n)", Lands::bare, (x, n) -> x.cow(0, n)).from(0, 0).to(3, 0).others(-1);
        Edge.of("3 cow(n, 2)", Lands::ordinary, (x, n) -> x.cow(n, 2)).from(0, 2).to(24, 2).others(-1);
        Edge.of("3 cow(24, n)", Lands::ordinary, (x, n) -> x.cow(24, n)).from(0, 2).to(3, 2).others(-1);
    }

    static void promise03EachCellAndWay() {
        for (int i = 0; i < 100; i++) {
            ThumbHedges x = new ThumbHedges();
            due("3 cow(" + i / 4 + ", " + i % 4 + ")", x.cow(i / 4, i % 4), 0);
            due("3 its CELL", x.of(0, 0), i / 4);
            due("3 its WAY", x.of(0, 1), i % 4);
            due("3 is no STEP", x.about(4), 0);
        }
    }

    /** "Or if there are 5." */
    static void promise03ThereAreFive() {
        ThumbHedges x = new ThumbHedges();
        for (int i = 0; i < 5; i++) {
            due("3 one by one", x.cow(20 + i, 3 - i % 4), i);
            due("3 so many", x.about(1), i + 1);
        }
        due("3 a sixth", x.cow(0, 0), -1);
        due("3 five", x.about(1), 5);
        for (int i = 0; i < 5; i++) {
            due("3 as told, CELL", x.of(i, 0), 20 + i);
            due("3 as told, WAY", x.of(i, 1), 3 - i % 4);
        }
        Edge.refused("3 a sixth", Lands::full, y -> y.cow(0, 0), -1);
        Edge.refused("3 a sixth that is none", Lands::full, y -> y.cow(25, 4), -1);
        x.back();
        due("3 none again: a first", x.cow(1, 1), 0);
    }

    /** A COW that is told leaves the others as they are: home, or where they are; up to the fifth, and by a sixth. */
    static void promise03TheOthersStay() {
        ThumbHedges x = new ThumbHedges();
        x.gate(0, true);
        x.cow(1, 2);
        x.go(0, 3);
        x.cow(12, 1);
        x.go(1, 2);
        for (int i = 2; i < 6; i++) {
            due("3 one more", x.cow(1, i % 4), i < 5 ? i : -1);
            due("3 the first is home", x.of(0, 0), -1);
            due("3 its WAY", x.of(0, 1), 3);
            due("3 the second isn't", x.of(1, 0), 17);
            due("3 its WAY", x.of(1, 1), 2);
            due("3 home(0)", x.home(0), 1);
        }
        due("3 the fifth goes home", x.go(4, 3), 0);
        due("3 both are", x.home(0), 1 | 16);
    }

    private static boolean isRim(int cell) {
        return cell / 5 == 0 || cell / 5 == 4 || cell % 5 == 0 || cell % 5 == 4;
    }

    /** "False for others (CELLS at the rim alone)." */
    static void promise04TheRimAlone() {
        Edge.of("4 gate(n, true)", Lands::ordinary, (x, n) -> x.gate(n, true) ? 1 : 0).from(0, 1).to(24, 1).others(0);
        Edge.of("4 gate(n, false)", Lands::ordinary, (x, n) -> x.gate(n, false) ? 1 : 0).from(0, 1).to(24, 1).others(0);
        for (int i = 0; i < 25; i++) {
            int cell = i;
            if (isRim(cell)) {
                ThumbHedges x = new ThumbHedges();
                due("4 gate(" + cell + ", true)", x.gate(cell, true), true);
                due("4 it has one", x.about(7), 1 << cell);
                due("4 gate(" + cell + ", false)", x.gate(cell, false), true);
                due("4 it has none", x.about(7), 0);
            } else {
                Edge.refused("4 gate(" + cell + ", true)", Lands::ordinary, x -> x.gate(cell, true) ? 1 : 0, 0);
                Edge.refused("4 gate(" + cell + ", false)", Lands::ordinary, x -> x.gate(cell, false) ? 1 : 0, 0);
            }
        }
    }

    /** "A GATE told, or none: true", also where it is so already; all sixteen at once. */
    static void promise04ToldAgain() {
        Edge.refused("4 there already", Lands::ordinary, x -> x.gate(4, true) ? 1 : 0, 1);
        Edge.refused("4 not there already", Lands::ordinary, x -> x.gate(5, false) ? 1 : 0, 1);
        ThumbHedges x = new ThumbHedges();
        int all = 0;
        for (int cell = 0; cell < 25; cell++) {
            if (x.gate(cell, true)) {
                all |= 1 << cell;
                due("4 gates so far", x.about(7), all);
            }
        }
        due("4 sixteen", Integer.bitCount(x.about(7)), 16);
        due("4 is no STEP", x.about(4), 0);
    }
}
