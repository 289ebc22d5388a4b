/** Boundaries of promises 10 to 13 and 15: what is done by hand and by scripts. */
final class EdgesDone {
    private EdgesDone() {
    }

    private static void due(String call, long got, long want) {
        Check.due(call, got, want);
    }

    private static void due(String call, boolean got, boolean want) {
        Check.due(call, got, want);
    }

    private static int bit(boolean is) {
        return is ? 1 : 0;
    }

    /** "False, if it is there, and for others." */
    static void promise10Others() {
        Edge.of("10 plant(n)", Lands::bare, (x, n) -> bit(x.plant(n))).from(0, 1).to(39, 1).others(0);
        Edge.of("10 plant(n)", Lands::ordinary, (x, n) -> bit(x.plant(n))).from(0, 1).to(39, 1).others(0);
    }

    static void promise10IsThere() {
        for (int i = 0; i < 40; i++) {
            int hedge = i;
            ThumbHedges x = new ThumbHedges();
            due("10 plant(" + hedge + ")", x.plant(hedge), true);
            due("10 it is there", x.hedge(hedge, 0), 1);
            due("10 it alone", x.is(4), 1);
            due("10 a STEP", x.about(4), 1);
            due("10 again", x.plant(hedge), false);
            due("10 no STEP more", x.about(4), 1);
            Edge.refused("10 plant(" + hedge + ") of all", Lands::walled, y -> bit(y.plant(hedge)), 0);
        }
    }

    /** "False, if it is not there, and for others." */
    static void promise11Others() {
        Edge.of("11 cut(n)", Lands::walled, (x, n) -> bit(x.cut(n))).from(0, 1).to(39, 1).others(0);
        Edge.of("11 cut(n)", Lands::ordinary, (x, n) -> bit(x.cut(n))).from(2, 1).to(2, 1);
        for (int n : Edge.beyond(0, 39)) {
            Edge.refused("11 cut(" + n + ")", Lands::ordinary, x -> bit(x.cut(n)), 0);
        }
    }

    static void promise11IsNotThere() {
        for (int i = 0; i < 40; i++) {
            int hedge = i;
            ThumbHedges x = Lands.walled();
            due("11 cut(" + hedge + ")", x.cut(hedge), true);
            due("11 it is gone", x.hedge(hedge, 0), 0);
            due("11 it alone", x.is(4), 39);
            due("11 a STEP", x.about(4), 2);
            due("11 again", x.cut(hedge), false);
            due("11 no STEP more", x.about(4), 2);
            Edge.refused("11 cut(" + hedge + ") of none", Lands::bare, y -> bit(y.cut(hedge)), 0);
        }
    }

    /** "False for others (0 .. 7)", HANDS that are told alone. */
    static void promise12Others() {
        Edge.refused("12 no HAND", Lands::bare, x -> bit(x.press(0, 0)), 0);
        Edge.of("12 press(n, 0) of 2", Lands::ordinary, (x, n) -> bit(x.press(n, 0))).from(0, 1).to(1, 1).others(0);
        Edge.of("12 press(n, 7) of 4", Lands::full, (x, n) -> bit(x.press(n, 7))).from(0, 1).to(3, 1).others(0);
        Edge.of("12 press(0, n)", Lands::ordinary, (x, n) -> bit(x.press(0, n))).from(0, 1).to(7, 1).others(0);
        Edge.of("12 press(3, n)", Lands::full, (x, n) -> bit(x.press(3, n))).from(0, 1).to(7, 1).others(0);
    }

    /** "HEDGES are as its": an empty HAND takes all, a full one leaves none out, by any turn. */
    static void promise12EmptyAndFull() {
        for (int turn = 0; turn < 8; turn++) {
            ThumbHedges x = new ThumbHedges();
            x.hand(0, 0);
            x.hand(Edge.FULL, Edge.FULL);
            due("12 full", x.press(1, turn), true);
            due("12 all", x.is(4), 40);
            due("12 full again", x.press(1, turn), true);
            due("12 still a STEP", x.about(4), 2);
            due("12 empty", x.press(0, turn), true);
            due("12 none", x.is(4), 0);
            due("12 empty again", x.press(0, turn), true);
            due("12 a STEP each", x.about(4), 4);
        }
    }

    /** HEDGE 4 (CELLS 5, 6) turned: quarters to the right, then the mirror image's. */
    static void promise12EachTurn() {
        int[] due = {4, 20 + 3, 15, 20 + 16, 7, 20 + 18, 12, 20 + 1};
        for (int turn = 0; turn < 8; turn++) {
            ThumbHedges x = new ThumbHedges();
            x.hand(1 << 4, 0);
            x.plant(30);
            x.press(0, turn);
            due("12 turn " + turn, x.hedge(due[turn], 0), 1);
            due("12 it alone", x.is(4), 1);
        }
    }

    /** "NONE, if it can't be, and for others (0 .. 3)." */
    static void promise13Others() {
        Edge.refused("13 no COW", Lands::bare, x -> x.go(0, 0), -1);
        Edge.of("13 go(n, 1) of 2", EdgesDone::twoCows, (x, n) -> x.go(n, 1)).from(0, 13).to(1, 7).others(-1);
        Edge.of("13 go(0, n)", EdgesDone::twoCows, (x, n) -> x.go(0, n)).from(0, 7).to(3, 11).others(-1);
        Edge.of("13 go(1, n)", EdgesDone::twoCows, (x, n) -> x.go(1, n)).from(0, 1).to(3, 5).others(-1);
    }

    private static ThumbHedges twoCows() {
        ThumbHedges x = new ThumbHedges();
        x.cow(12, 0);
        x.cow(6, 2);
        x.plant(39);
        x.hour(4);
        x.plant(38);
        return x;
    }

    /** "Beyond the rim none": from each CELL by each WAY. */
    static void promise13TheRim() {
        int[] more = {-5, 1, 5, -1};
        for (int i = 0; i < 100; i++) {
            int cell = i / 4;
            int way = i % 4;
            boolean rim = way == 0 && cell < 5 || way == 1 && cell % 5 == 4 || way == 2 && cell > 19
                    || way == 3 && cell % 5 == 0;
            ThumbHedges x = new ThumbHedges();
            x.cow(cell, (way + 2) % 4);
            due("13 go from " + cell + " by " + way, x.go(0, way), rim ? -1 : cell + more[way]);
            due("13 its CELL", x.of(0, 0), rim ? cell : cell + more[way]);
            due("13 its WAY", x.of(0, 1), rim ? (way + 2) % 4 : way);
            due("13 STEPS", x.about(4), rim ? 0 : 1);
        }
    }

    /** "A WAY that no HEDGE .. bars": each HEDGE bars both CELLS beside it. */
    static void promise13EachHedge() {
        for (int hedge = 0; hedge < 40; hedge++) {
            ThumbHedges x = new ThumbHedges();
            int first = x.hedge(hedge, 1);
            int second = x.hedge(hedge, 2);
            int way = hedge < 20 ? 1 : 2;
            x.cow(first, 0);
            x.cow(second, 0);
            x.plant(hedge);
            due("13 barred by " + hedge, x.go(0, way), -1);
            due("13 barred by " + hedge, x.go(1, way + 2 & 3), -1);
            due("13 its WAY stays", x.of(0, 1), 0);
            due("13 no STEP", x.about(4), 1);
            x.cut(hedge);
            due("13 open", x.go(0, way), second);
            due("13 open", x.go(1, way + 2 & 3), first);
        }
    }

    /** "Is there a GATE where it is then, it is home": not by the one where it was. */
    static void promise13TheGate() {
        ThumbHedges x = new ThumbHedges();
        x.cow(1, 2);
        x.gate(1, true);
        x.gate(4, true);
        due("13 away from a GATE", x.go(0, 1), 2);
        due("13 not home", x.of(0, 0), 2);
        due("13 on", x.go(0, 1), 3);
        due("13 the CELL it comes to", x.go(0, 1), 4);
        due("13 home", x.of(0, 0), -1);
        due("13 its WAY", x.of(0, 1), 1);
        due("13 not written down", x.book(-1, 0), 0);
        for (int way = 0; way < 4; way++) {
            due("13 home it can't go", x.go(0, way), -1);
        }
        due("13 STEPS", x.about(4), 3);
        x.gate(4, false);
        due("13 home still", x.of(0, 0), -1);
        due("13 home it can't go", x.go(0, 3), -1);
        due("13 taken back", x.undo(), 2);
        due("13 no GATE there now", x.go(0, 1), 4);
        due("13 not home", x.of(0, 0), 4);
    }

    /** "-2 for others." */
    static void promise15Others() {
        Edge.refused("15 no TEXT", Lands::bare, x -> x.played(0), -2);
        Edge.refused("15 NONE is no TEXT", Lands::bare, x -> x.played(-1), -2);
        Edge.of("15 played(n) of 2", Lands::ordinary, (x, n) -> x.played(n)).from(0, -1).to(1, -1).others(-2);
        Edge.of("15 played(n) of 4", Lands::full, (x, n) -> x.played(n)).from(0, -1).to(3, -1).others(-2);
    }

    /** A script of one CLAUSE behind two laws and a deed: "its number among all CLAUSES (from 0)". */
    private static ThumbHedges script(ThumbHedges x, String clause, int want) {
        int text = Check.text(x, "frosts 0;hour 1;goes 0;" + clause + "hour 1;");
        int hour = x.is(0);
        due("15 " + clause + " by a script", x.played(text), want);
        due("15 HOURS passed", x.is(0) - hour, want == -1 ? 2 : 1);
        return x;
    }

    /** "One that can't be ends it", of each kind, and beside it one that can. */
    static void promise15CantBe() {
        script(new ThumbHedges(), "cow 0 way 0;", -1);
        script(EdgesDone.cows(4), "cow 0 way 0;", -1);
        script(EdgesDone.cows(5), "cow 0 way 0;", 3);
        script(new ThumbHedges(), "gate 9;", -1);
        script(new ThumbHedges(), "gate 8;", 3);
        script(new ThumbHedges(), "gate 6;", 3);
        script(new ThumbHedges(), "gate 5;", -1);
        script(new ThumbHedges(), "gate 18;", 3);
        script(new ThumbHedges(), "gate 19;", -1);
        script(new ThumbHedges(), "plant 39;", -1);
        script(Lands.walled(), "plant 39;", 3);
        script(Lands.walled(), "cut 39;", -1);
        script(new ThumbHedges(), "cut 39;", 3);
        script(new ThumbHedges(), "press 0 turn 7;", 3);
        script(Lands.walled(), "press 0 turn 7;", -1);
        script(Lands.walled(), "press 1 turn 0;", 3);
        script(cows(1), "go 0 by 0;", 3);
        script(cows(1), "go 1 by 0;", -1);
        script(cows(1), "go 1 by 1;", 3);
        script(cows(0), "go 1 by 0;", 3);
    }

    /** COWS at CELL 0. */
    private static ThumbHedges cows(int many) {
        ThumbHedges x = new ThumbHedges();
        for (int i = 0; i < many; i++) {
            x.cow(0, 0);
        }
        return x;
    }

    /** "Of so many HOURS those that can pass do." */
    static void promise15HoursThatCanPass() {
        for (int left = 0; left <= 4; left++) {
            ThumbHedges x = Lands.hoursLeft(left);
            int text = Check.text(x, "hour 3;");
            due("15 hour 3 with " + left + " left", x.played(text), left < 3 ? 0 : -1);
            due("15 HOUR", x.is(0), Math.min(9999, 9999 - left + 3));
            due("15 STEPS are taken back", x.undo(), 29);
            due("15 one less", x.is(0), left == 0 ? 9998 : Math.min(9998, 9999 - left + 2));
        }
        ThumbHedges x = Lands.hoursLeft(60);
        due("15 hour 60", x.played(Check.text(x, "hour 60;gate 0;")), -1);
        due("15 HOUR", x.is(0), 9999);
        due("15 the next one too", x.about(7), 1);
        ThumbHedges y = Lands.hoursLeft(59);
        due("15 hour 60", y.played(Check.text(y, "hour 60;gate 0;")), 0);
        due("15 HOUR", y.is(0), 9999);
        due("15 the next one not", y.about(7), 0);
    }

    /** "Its CLAUSES but laws", "as by hand": each a STEP, GONE home is not written down, THE TEXT is not this. */
    static void promise15AsByHand() {
        ThumbHedges x = new ThumbHedges();
        x.hand(1, 0);
        int text = Check.text(x, "goes 0;cow 1 way 1;gate 0;plant 1;cut 1;press 0 turn 4;go 3 by 0;hour 2;frosts 9;");
        due("15 all is done", x.played(text), -1);
        due("15 STEPS", x.about(4), 6);
        due("15 home", x.of(0, 0), -1);
        due("15 not written down", x.book(-1, 0), 0);
        due("15 THE TEXT is none", x.about(3), -1);
        due("15 frosts are as without", x.hedge(0, 3), 3);
        ThumbHedges y = new ThumbHedges();
        y.gate(1, true);
        due("15 in an HOUR", y.played(Check.text(y, "cow 0 way 0;hour 1;")), -1);
        due("15 home is written down", y.book(-1, 0), 1);
        due("15 which", y.book(0, 2), 0);
    }

    /** A TEXT of no CLAUSE, and of 24 of which the last can't be. */
    static void promise15EmptyAndLast() {
        ThumbHedges x = new ThumbHedges();
        Edge.refused("15 no CLAUSE", () -> emptyText(""), y -> y.played(0), -1);
        Edge.refused("15 laws alone", () -> emptyText("frosts 1;goes 2;"), y -> y.played(0), -1);
        Edge.refused("15 the first", () -> emptyText("cut 5;plant 3;"), y -> y.played(0), 0);
        StringBuilder plants = new StringBuilder();
        for (int i = 0; i < 23; i++) {
            plants.append("plant ").append(i).append(';');
        }
        due("15 24 CLAUSES", Check.text(x, plants + "plant 0;"), 0);
        due("15 the last can't be", x.played(0), 23);
        due("15 what was done stays", x.is(4), 23);
        due("15 STEPS", x.about(4), 23);
        due("15 now the first can't be", x.played(0), 0);
        due("15 nothing was done", x.about(4), 23);
    }

    private static ThumbHedges emptyText(String signs) {
        ThumbHedges x = new ThumbHedges();
        Check.text(x, signs);
        x.plant(7);
        return x;
    }
}
