/** Boundaries of promises 17 and 23: the latest 30 STEPS, the latest 30 lines of the BOOK. */
final class EdgesSteps {
    private EdgesSteps() {
    }

    private static void due(String call, long got, long want) {
        Check.due(call, got, want);
    }

    /** "NONE: there is none": at first, and when all are taken back. */
    static void promise17ThereIsNone() {
        Edge.refused("17 undo() of a new object", Lands::bare, x -> x.undo(), -1);
        Edge.refused("17 undo() of what was told alone", EdgesSteps::toldAlone, x -> x.undo(), -1);
        ThumbHedges x = new ThumbHedges();
        x.plant(0);
        due("17 one", x.undo(), 0);
        due("17 none", x.undo(), -1);
        due("17 none still", x.undo(), -1);
        due("17 bare", x.is(4), 0);
        due("17 planted again", x.plant(0) ? 1 : 0, 1);
        due("17 one again", x.undo(), 0);
    }

    private static ThumbHedges toldAlone() {
        ThumbHedges x = new ThumbHedges();
        x.hand(1, 2);
        x.cow(3, 1);
        x.gate(4, true);
        Check.text(x, "goes 1;");
        x.by(0);
        x.said(1, 1);
        x.image();
        x.foretold(60, 0);
        return x;
    }

    /** "The latest 30 can be taken back": of 29, 30, 31, 60 and 61. */
    static void promise17TheLatestThirty() {
        for (int n : new int[] {1, 29, 30, 31, 59, 60, 61, 75}) {
            ThumbHedges x = new ThumbHedges();
            for (int i = 0; i < n; i++) {
                due("17 a STEP", i % 80 < 40 ? bit(x.plant(i % 40)) : bit(x.cut(i % 40)), 1);
                due("17 so many", x.about(4), Math.min(30, i + 1));
            }
            int can = Math.min(30, n);
            for (int i = can - 1; i >= 0; i--) {
                due("17 undo()", x.undo(), i);
                due("17 how many yet", x.about(4), i);
                int left = n - can + i;
                due("17 HEDGES", x.is(4), left <= 40 ? left : 80 - left);
            }
            due("17 none", x.undo(), -1);
            due("17 the eldest stay", x.is(4), n - can <= 40 ? n - can : 80 - n + can);
        }
    }

    private static int bit(boolean is) {
        return is ? 1 : 0;
    }

    /** "STEPS: PLANTED, CUT, PRESSED, GONE, an HOUR (each), YEARS", the latest first. */
    static void promise17EachKind() {
        ThumbHedges x = new ThumbHedges();
        x.hand(7, 0);
        x.cow(12, 0);
        x.plant(30);
        x.cut(30);
        x.press(0, 0);
        x.go(0, 1);
        x.hour(3);
        x.years(0, 40);
        due("17 STEPS", x.about(4), 8);
        due("17 YEARS", x.undo(), 7);
        due("17 HOUR", x.is(0), 3);
        due("17 an HOUR", x.undo(), 6);
        due("17 HOUR", x.is(0), 2);
        due("17 an HOUR", x.undo(), 5);
        due("17 HOUR", x.is(0), 1);
        due("17 an HOUR", x.undo(), 4);
        due("17 HOUR", x.is(0), 0);
        due("17 X", x.is(1), 331);
        due("17 its CELL", x.of(0, 0), 13);
        due("17 its WAY", x.of(0, 1), 1);
        due("17 GONE", x.undo(), 3);
        due("17 its CELL", x.of(0, 0), 12);
        due("17 its WAY", x.of(0, 1), 0);
        due("17 PRESSED", x.undo(), 2);
        due("17 none there", x.is(4), 0);
        due("17 CUT", x.undo(), 1);
        due("17 it is there", x.is(3), 1 << 10);
        due("17 PLANTED", x.undo(), 0);
        due("17 none there", x.is(4), 0);
    }

    /** What can't be is no STEP, nor is what is told or asked. */
    static void promise17NoSteps() {
        ThumbHedges x = Lands.ordinary();
        int steps = x.about(4);
        x.plant(2);
        x.cut(39);
        x.press(2, 0);
        x.go(1, 3);
        x.hour(61);
        x.years(10000, 1);
        x.played(-1);
        x.hand(1, 1);
        x.cow(1, 1);
        x.gate(1, true);
        x.by(-1);
        x.said(1, 1);
        x.text();
        x.image();
        x.foretold(60, 0);
        due("17 STEPS", x.about(4), steps);
    }

    /** "COWS told since are as told": told ahead of the STEP they went by, and ahead of none. */
    static void promise17CowsToldSince() {
        ThumbHedges x = new ThumbHedges();
        x.plant(0);
        x.cow(12, 2);
        x.hour(1);
        x.cow(24, 3);
        x.go(0, 1);
        due("17 GONE", x.undo(), 2);
        due("17 the second", x.of(1, 0), 24);
        due("17 the HOUR", x.undo(), 1);
        due("17 the first as told", x.of(0, 0), 12);
        due("17 its WAY", x.of(0, 1), 2);
        due("17 the second as told", x.of(1, 0), 24);
        due("17 its WAY", x.of(1, 1), 3);
        due("17 PLANTED", x.undo(), 0);
        due("17 two COWS", x.about(1), 2);
        x.hour(1);
        due("17 both go", x.of(0, 0) * 100 + x.of(1, 0), 1119);
    }

    /** All five told behind the STEP that is taken back, one of them home since. */
    static void promise17FiveToldSince() {
        ThumbHedges x = new ThumbHedges();
        x.gate(0, true);
        x.plant(39);
        for (int i = 0; i < 5; i++) {
            x.cow(i, 3);
        }
        due("17 home", x.go(1, 3), 0);
        due("17 home", x.of(1, 0), -1);
        due("17 taken back", x.undo(), 1);
        due("17 not home", x.of(1, 0), 1);
        due("17 taken back", x.undo(), 0);
        for (int i = 0; i < 5; i++) {
            due("17 as told", x.of(i, 0), i);
            due("17 its WAY", x.of(i, 1), 3);
        }
        due("17 a sixth", x.cow(0, 0), -1);
    }

    /** What no STEP changes stays: HANDS, GATES, TEXTS, THE TEXT, SAID, the tape. */
    static void promise17WhatStays() {
        ThumbHedges x = new ThumbHedges();
        x.plant(0);
        x.hand(1, 2);
        x.gate(3, true);
        Check.text(x, "goes 0;");
        x.by(0);
        x.said(4, 4);
        x.feed(0, 0, 0, 0, 0);
        x.undo();
        int[] about = {1, 0, 1, 0, 0, 1, 20, 8};
        for (int i = 0; i < 8; i++) {
            due("17 about(" + i + ")", x.about(i), about[i]);
        }
    }

    /** A COW that came home in an HOUR isn't, and the line is gone; the HOUR can be again. */
    static void promise17HomeTakenBack() {
        ThumbHedges x = new ThumbHedges();
        x.gate(1, true);
        x.cow(0, 0);
        for (int i = 0; i < 3; i++) {
            due("17 home", x.hour(1), 1);
            due("17 a line", x.book(-1, 0), 1);
            due("17 taken back", x.undo(), 0);
            due("17 not home", x.of(0, 0), 0);
            due("17 no line", x.book(-1, 0), 0);
            due("17 X", x.is(1), 331);
        }
    }

    /** "BOOK: how many (i NONE)": 0, whatever else is asked. */
    static void promise23EmptyBook() {
        ThumbHedges x = new ThumbHedges();
        due("23 none", x.book(-1, 0), 0);
        for (int i : new int[] {-2, 0, 1, 29, 30, Edge.MIN, Edge.MAX}) {
            for (int what = -1; what < 4; what++) {
                due("23 none such", x.book(i, what), -2);
            }
        }
    }

    /** "-2 if there is none such, and for others." */
    static void promise23Others() {
        Edge.of("23 book(n, 2)", EdgesSteps::threeLines, (x, n) -> x.book(n, 2)).from(-1, 3).to(2, 2).others(-2);
        Edge.of("23 book(0, n)", EdgesSteps::threeLines, (x, n) -> x.book(0, n)).from(0, 0).to(2, 0).others(-2);
        Edge.of("23 book(2, n)", EdgesSteps::threeLines, (x, n) -> x.book(2, n)).from(0, 0).to(2, 2).others(-2);
        Edge.of("23 book(n, 1) of 30", Lands::full, (x, n) -> x.book(n, 1)).from(-1, 30).to(29, 0).others(-2);
    }

    private static ThumbHedges threeLines() {
        ThumbHedges x = new ThumbHedges();
        x.gate(1, true);
        for (int i = 0; i < 3; i++) {
            x.cow(0, 0);
        }
        x.hour(1);
        return x;
    }

    /** All HEDGES are there at each HOUR and frosts are 10, so that each one writes a line. */
    private static ThumbHedges manyLines(int lines) {
        ThumbHedges x = new ThumbHedges();
        Check.text(x, "frosts 10;");
        x.by(0);
        x.hand(Edge.FULL, Edge.FULL);
        for (int i = 0; i < lines; i++) {
            x.press(0, 0);
            x.hour(1);
        }
        return x;
    }

    /** "BOOK (the latest 30)": of 29, 30, 31 and more. */
    static void promise23TheLatestThirty() {
        int[] which = new int[100];
        int x = 331;
        for (int i = 0; i < 100; i++) {
            which[i] = x % 40;
            int byTen = (x * 587 + 457) % 30817;
            x = (byTen * 587 + 457) % 30817;
        }
        for (int n : new int[] {1, 2, 28, 29, 30, 31, 32, 59, 60, 61, 100}) {
            ThumbHedges land = manyLines(n);
            int lines = Math.min(30, n);
            due("23 how many of " + n, land.book(-1, 0), lines);
            due("23 by the ledger", land.ledger(0), lines);
            for (int i = 0; i < lines; i++) {
                due("23 its HOUR", land.book(i, 0), n - lines + i);
                due("23 a HEDGE", land.book(i, 1), 0);
                due("23 which", land.book(i, 2), which[n - lines + i]);
            }
            due("23 none such", land.book(lines, 0), -2);
        }
    }

    /** The eldest line that fell out comes back, when the HOUR is taken back. */
    static void promise23TheEldestComesBack() {
        ThumbHedges x = manyLines(31);
        due("23 the eldest", x.book(0, 0), 1);
        x.undo();
        due("23 lines", x.book(-1, 0), 30);
        due("23 the eldest again", x.book(0, 0), 0);
        due("23 the latest", x.book(29, 0), 29);
        x.undo();
        x.undo();
        due("23 one less", x.book(-1, 0), 29);
        due("23 the latest", x.book(28, 0), 28);
    }

    /** At the ends of what a line holds: HOUR 9998, HEDGE 39 and COW 4. */
    static void promise23LinesAtTheirEnds() {
        ThumbHedges x = Lands.hoursLeft(1);
        x.gate(1, true);
        for (int i = 0; i < 4; i++) {
            x.cow(0, 0);
        }
        due("23 home", x.hour(1), 4);
        due("23 the latest HOUR", x.book(3, 0), 9998);
        due("23 a COW", x.book(3, 1), 1);
        due("23 which", x.book(3, 2), 4);
        due("23 the first of them", x.book(0, 2), 1);
        ThumbHedges y = Lands.walled();
        Check.text(y, "frosts 10;");
        y.by(0);
        y.hour(60);
        int found = 0;
        for (int i = 0; i < y.book(-1, 0); i++) {
            found = Math.max(found, y.book(i, 2));
        }
        due("23 HEDGE 39 is frozen", y.hedge(39, 0), 0);
        due("23 it is written down", found, 39);
    }
}
