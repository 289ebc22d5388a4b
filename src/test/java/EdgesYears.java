/** Boundaries of promise 16: YEARS by a SEED. */
final class EdgesYears {
    private EdgesYears() {
    }

    private static void due(String call, long got, long want) {
        Check.due(call, got, want);
    }

    private static int anew(int x) {
        return (x * 587 + 457) % 30817;
    }

    /** "SEED (0 .. 9999)", "n times (1 .. 40)", "NONE for others". */
    static void promise16Others() {
        Edge.of("16 years(n, 1)", Lands::bare, (x, n) -> x.years(n, 1)).from(0, 0).to(9999, 0).others(-1);
        Edge.of("16 years(n, 1)", Lands::ordinary, (x, n) -> x.years(n, 1)).from(0, 2).to(9999, 2).others(-1);
        Edge.of("16 years(0, n)", Lands::bare, (x, n) -> x.years(0, n)).from(1, 0).to(40, 22).others(-1);
        Edge.refused("16 both", Lands::ordinary, x -> x.years(10000, 41), -1);
    }

    /** "X is SEED * 2 + 331", then anew for each. */
    static void promise16SeedsAtTheirEnds() {
        for (int seed : new int[] {0, 4, 3}) {
            ThumbHedges x = new ThumbHedges();
            x.hour(7);
            x.years(seed, 1);
            due("16 X of SEED " + seed, x.is(1), anew(seed * 2 + 331));
        }
        ThumbHedges x = new ThumbHedges();
        due("16 SEED 9999: 20329 is 1 of 7", 20329 % 7, 1);
        due("16 SEED 9999", x.years(9999, 1), 0);
        due("16 X", x.is(1), anew(20329));
        ThumbHedges y = new ThumbHedges();
        due("16 SEED 9998: 20327 is 6 of 7", y.years(9998, 1), 1);
        due("16 X: an HOUR's draw, too", y.is(1), anew(anew(20327)));
    }

    /** "What there are none of isn't": X goes on, nothing else is done, and it is a STEP. */
    static void promise16NoHandsNoCows() {
        int[] seeds = {0, 7, 4, 11};
        for (int seed : seeds) {
            ThumbHedges x = new ThumbHedges();
            x.plant(9);
            due("16 years(" + seed + ", 1)", x.years(seed, 1), 0);
            due("16 HEDGES stay", x.is(2), 1 << 9);
            due("16 no other", x.is(4), 1);
            due("16 X", x.is(1), anew(seed * 2 + 331));
            due("16 a STEP", x.about(4), 2);
            due("16 taken back", x.undo(), 1);
            due("16 X as ahead of it", x.is(1), 331);
        }
    }

    /** "HAND x mod how many is PRESSED by turn x / 7 mod 8": of one, two, three and four. */
    static void promise16HandsByHowMany() {
        for (int many = 1; many <= 4; many++) {
            for (int seed : new int[] {0, 7, 14, 21, 28}) {
                int x = seed * 2 + 331;
                due("16 2 of 7", x % 7, 2);
                ThumbHedges land = new ThumbHedges();
                for (int i = 0; i < many; i++) {
                    land.hand(1 << i | 1 << 7, 1 << i);
                }
                land.plant(39);
                land.years(seed, 1);
                due("16 east", land.is(2), land.turned(x % many, x / 7 % 8, false));
                due("16 south", land.is(3), land.turned(x % many, x / 7 % 8, true));
            }
        }
    }

    /** "COW x mod how many goes WAY x / 7 mod 4", of one to five. */
    static void promise16CowsByHowMany() {
        int[] beside = {7, 13, 17, 11};
        for (int many = 1; many <= 5; many++) {
            for (int seed : new int[] {4, 11, 18, 25, 32, 39}) {
                int x = seed * 2 + 331;
                due("16 3 of 7", x % 7, 3);
                ThumbHedges land = new ThumbHedges();
                for (int i = 0; i < many; i++) {
                    land.cow(12, 0);
                }
                due("16 no HOUR", land.years(seed, 1), 0);
                for (int i = 0; i < many; i++) {
                    due("16 COW " + i, land.of(i, 0), i == x % many ? beside[x / 7 % 4] : 12);
                }
                due("16 its WAY", land.of(x % many, 1), x / 7 % 4);
            }
        }
    }

    /** "(each if it can be)": PLANTED where it is, CUT where none is, barred by a HEDGE, by the rim, or home. */
    static void promise16IfItCanBe() {
        ThumbHedges x = new ThumbHedges();
        x.years(6, 1);
        due("16 343 / 7 mod 40: PLANTED", x.is(2), 1 << 9);
        x.years(6, 1);
        due("16 it is there", x.is(4), 1);
        due("16 3: 337 / 7 mod 40 is 8: not there", x.years(3, 1), 0);
        due("16 as it was", x.is(2), 1 << 9);
        x.plant(8);
        x.years(3, 1);
        due("16 CUT", x.is(2), 1 << 9);
        // SEED 4: 339 / 7 mod 4 is 0, north.
        ThumbHedges rim = new ThumbHedges();
        rim.cow(2, 3);
        rim.years(4, 1);
        due("16 the rim bars", rim.of(0, 0), 2);
        due("16 its WAY stays", rim.of(0, 1), 3);
        ThumbHedges barred = new ThumbHedges();
        barred.cow(12, 3);
        barred.plant(27);
        barred.years(4, 1);
        due("16 a HEDGE bars", barred.of(0, 0), 12);
        due("16 its WAY stays", barred.of(0, 1), 3);
        ThumbHedges home = new ThumbHedges();
        home.cow(9, 3);
        home.gate(4, true);
        home.years(4, 1);
        due("16 GONE home", home.of(0, 0), -1);
        due("16 in no HOUR: not written down", home.book(-1, 0), 0);
        home.gate(4, false);
        home.years(4, 1);
        due("16 home it can't go", home.of(0, 0), -1);
    }

    /** "4, 5, 6 an HOUR (if it can pass)": at 9998 one can, at 9999 none. */
    static void promise16AnHourIfItCanPass() {
        int[] seeds = {1, 5, 2};
        for (int seed : seeds) {
            int x = seed * 2 + 331;
            due("16 4, 5 or 6 of 7", x % 7 > 3 ? 1 : 0, 1);
            ThumbHedges first = new ThumbHedges();
            first.cow(12, 0);
            due("16 an HOUR", first.years(seed, 1), 1);
            due("16 COWS go", first.of(0, 0), 13);
            due("16 X: its draw, too", first.is(1), anew(anew(x)));
            ThumbHedges one = Lands.hoursLeft(1);
            due("16 at 9998", one.years(seed, 1), 9999);
            due("16 X: its draw, too", one.is(1), anew(anew(x)));
            ThumbHedges last = Lands.last();
            int at = last.of(0, 0);
            due("16 at 9999", last.years(seed, 1), 9999);
            due("16 COWS stay", last.of(0, 0), at);
            due("16 X: one draw", last.is(1), anew(x));
        }
    }

    /** "It is one STEP", of one or of forty, even if nothing is otherwise; "HOUR". */
    static void promise16OneStep() {
        for (int n : new int[] {1, 2, 39, 40}) {
            ThumbHedges x = Lands.ordinary();
            int steps = x.about(4);
            int hour = x.years(1234, n);
            due("16 HOUR", x.is(0), hour);
            due("16 one STEP", x.about(4), steps + 1);
            x.undo();
            Edge.same("16 taken back", x, Lands.ordinary());
        }
    }

    /** In an HOUR of YEARS home is written down. */
    static void promise16HomeInAnHour() {
        ThumbHedges x = new ThumbHedges();
        x.cow(0, 0);
        x.gate(1, true);
        due("16 an HOUR", x.years(1, 1), 1);
        due("16 home", x.of(0, 0), -1);
        due("16 written down", x.book(-1, 0), 1);
        due("16 its HOUR", x.book(0, 0), 0);
        due("16 a COW", x.book(0, 1), 1);
    }
}
