/** Boundaries of what laws say, as promises 18 (goes) and 20 (frosts) tell it. */
final class EdgesLaws {
    /** 50 less than what nothing goes above. */
    private static final String ALMOST = "(9999*100+50)";

    private EdgesLaws() {
    }

    private static void due(String call, long got, long want) {
        Check.due(call, got, want);
    }

    /** What goes says of COW 0 on this land; the TEXT must be whole. */
    private static void goes(ThumbHedges x, String sum, int want) {
        int text = Check.text(x, "goes " + sum + ";");
        due("7 goes " + sum + " is whole", text >= 0 && x.by(text) ? 1 : 0, 1);
        due("18 goes " + sum, x.of(0, 2), want);
    }

    private static void goes(String sum, int want) {
        ThumbHedges x = new ThumbHedges();
        x.cow(12, 3);
        goes(x, sum, want);
    }

    private static void frosts(ThumbHedges x, int hedge, String sum, int want) {
        int text = Check.text(x, "frosts " + sum + ";");
        due("7 frosts " + sum + " is whole", text >= 0 && x.by(text) ? 1 : 0, 1);
        due("20 frosts " + sum + " of " + hedge, x.hedge(hedge, 3), want);
    }

    /** "goes: -99 at least, 99 at most; without: 1." */
    static void promise18GoesAtItsEnds() {
        int[] said = {-9999, -101, -100, -99, -98, -1, 0, 1, 98, 99, 100, 101, 9999};
        for (int value : said) {
            goes("0" + (value < 0 ? "-" + -value : "+" + value), Math.max(-99, Math.min(99, value)));
        }
        goes("9999*9999", 99);
        goes("-9999*9999", -99);
        ThumbHedges x = new ThumbHedges();
        x.cow(0, 0);
        due("18 without THE TEXT", x.of(0, 2), 1);
        Check.text(x, "frosts 5;");
        x.by(0);
        due("18 without the law", x.of(0, 2), 1);
    }

    /** "frosts (the odds of 10): 0 at least, 10 at most; without: 3." */
    static void promise20FrostsAtTheirEnds() {
        int[] said = {-9999, -2, -1, 0, 1, 9, 10, 11, 12, 9999};
        for (int value : said) {
            frosts(new ThumbHedges(), 0, "0" + (value < 0 ? "-" + -value : "+" + value), Math.max(0, Math.min(10, value)));
        }
        frosts(new ThumbHedges(), 39, "9999*9999", 10);
        frosts(new ThumbHedges(), 39, "-9999*9999", 0);
        ThumbHedges x = new ThumbHedges();
        due("20 without THE TEXT", x.hedge(39, 3), 3);
        Check.text(x, "goes 5;");
        x.by(0);
        due("20 without the law", x.hedge(39, 3), 3);
    }

    /** NUMBERS "0 .. 9999". */
    static void promise18NumbersAtTheirEnds() {
        goes("0", 0);
        goes("0000", 0);
        goes("9999-9950", 49);
        goes("00009999-9950", 49);
        goes("9999-9999", 0);
    }

    /** "0, if one is no CELL": -1 and 25, of the first and of the second. */
    static void promise18FarOfNoCell() {
        for (int a = -2; a <= 26; a++) {
            for (int b = -2; b <= 26; b++) {
                boolean cells = a >= 0 && a <= 24 && b >= 0 && b <= 24;
                int apart = Math.abs(a / 5 - b / 5) + Math.abs(a % 5 - b % 5);
                goes("far(" + a + ")of(" + b + ")", cells ? apart : 0);
            }
        }
        goes("far 9999 of 0", 0);
        goes("far 0 of 9999*9999", 0);
        goes("far(9999*9999)of 0", 0);
        goes("far 0 of(-9999*9999)", 0);
    }

    /** "1, if the HEDGE of that number is there; else 0, also for others." */
    static void promise18HedgeOfOthers() {
        for (int n : new int[] {-9999, -65, -64, -33, -32, -2, -1, 0, 1, 19, 20, 38, 39, 40, 41, 63, 64, 79, 80, 9999}) {
            ThumbHedges x = Lands.walled();
            x.cow(12, 3);
            goes(x, "hedge(" + n + ")", n >= 0 && n < 40 ? 1 : 0);
            goes("hedge(" + n + ")", 0);
        }
        ThumbHedges x = Lands.walled();
        x.cow(12, 3);
        goes(x, "hedge(9999*9999)+hedge(-9999*9999)", 0);
    }

    /** "/ cuts towards 0, by 0 it is 0." */
    static void promise18DividedByNothing() {
        goes("7/0", 0);
        goes("0/0", 0);
        goes("-7/0", 0);
        goes("5-7/0*3", 5);
        goes("7/0/0+4", 4);
        goes("9999*9999/0", 0);
        goes("7/(3-3)", 0);
        goes("8/-0", 0);
        goes("9/1", 9);
        goes("9/-1", -9);
    }

    static void promise18CutsTowardsNothing() {
        goes("7/2", 3);
        goes("-7/2", -3);
        goes("7/-2", -3);
        goes("-7/-2", 3);
        goes("(0-7)/2", -3);
        goes("1/2", 0);
        goes("-1/2", 0);
        goes("0/5", 0);
        goes("6/2", 3);
        goes("-6/2", -3);
    }

    /** "What is above 1000000 .. is that, at each step." */
    static void promise18AboveAMillion() {
        goes("1000*1000-1-" + ALMOST, 49);
        goes("1000*1000-" + ALMOST, 50);
        goes("1000*1000+1-" + ALMOST, 50);
        goes("1001*1000-" + ALMOST, 50);
        goes("9999*9999-" + ALMOST, 50);
        goes("1000*1000+9-9-" + ALMOST, 41);
        goes("9999*100+120-120-" + ALMOST, -70);
        goes("9999*9999/9999-50", 50);
        goes("1000*1000*(1000*1000)-" + ALMOST, 50);
        goes("1000*1000*(1000*1000)/1000/100", 10);
        goes("-1000*1000*-(1000*1000)-" + ALMOST, 50);
        goes("0-(-1000*1000)-" + ALMOST, 50);
        goes("1000*1000-(-1000*1000)-" + ALMOST, 50);
        goes("1000*1000*2-1000*1000", 0);
        goes("if 1000*1000=1000*1000+1 then 5 else 6 end", 5);
        goes("if 1000*1000-1=1000*1000 then 5 else 6 end", 6);
    }

    /** "(below the same less)." */
    static void promise18BelowAMillionLess() {
        goes("-1000*1000+1+" + ALMOST, -49);
        goes("-1000*1000+" + ALMOST, -50);
        goes("-1000*1000-1+" + ALMOST, -50);
        goes("-1001*1000+" + ALMOST, -50);
        goes("1001*-1000+" + ALMOST, -50);
        goes("-1000*1000-9+9+" + ALMOST, -41);
        goes("-9999*9999/9999+50", -50);
        goes("-1000*1000*(1000*1000)+" + ALMOST, -50);
        goes("1000*1000*-(1000*1000)+" + ALMOST, -50);
        goes("-(1000*1000)-1000*1000+" + ALMOST, -50);
        goes("if -1000*1000=-1000*1000-1 then 5 else 6 end", 5);
    }

    /** NAMES at the ends of what they can be. */
    static void promise18NamesAtTheirEnds() {
        ThumbHedges x = Lands.last();
        goes(x, "hour-9950", 49);
        goes("hour", 0);
        for (int i = 0; i < 100; i++) {
            ThumbHedges y = new ThumbHedges();
            y.cow(i / 4, i % 4);
            goes(y, "cell*4+way+who", Math.min(99, i));
        }
        ThumbHedges z = Lands.full();
        for (int i = 0; i < 5; i++) {
            z.back();
            z.by(-1);
            due("18 goes without", z.of(i, 2), 1);
        }
        manyCows();
    }

    private static void manyCows() {
        ThumbHedges x = new ThumbHedges();
        Check.text(x, "goes who*10+way;");
        x.by(0);
        for (int i = 0; i < 5; i++) {
            x.cow(24 - i, (i + 3) % 4);
            due("18 who and way of " + i, x.of(i, 2), i * 10 + (i + 3) % 4);
        }
    }

    /** around is 0 .. 4, all is 0 .. 40; the rim is no HEDGE. */
    static void promise18AroundAndAll() {
        goes("around+all", 0);
        ThumbHedges x = Lands.walled();
        x.cow(12, 0);
        goes(x, "around*20-all", 40);
        ThumbHedges y = Lands.walled();
        y.cow(24, 0);
        goes(y, "around*10-all", -20);
        ThumbHedges z = Lands.walled();
        z.cow(2, 0);
        goes(z, "around", 3);
    }

    /** number is 0 .. 39, and cell "its northern or western one". */
    static void promise20NamesAtTheirEnds() {
        frosts(new ThumbHedges(), 0, "number", 0);
        frosts(new ThumbHedges(), 1, "number", 1);
        frosts(new ThumbHedges(), 39, "number-30", 9);
        frosts(new ThumbHedges(), 0, "cell", 0);
        frosts(new ThumbHedges(), 3, "cell", 3);
        frosts(new ThumbHedges(), 4, "cell", 5);
        frosts(new ThumbHedges(), 19, "cell-20", 3);
        frosts(new ThumbHedges(), 20, "cell", 0);
        frosts(new ThumbHedges(), 24, "cell", 4);
        frosts(new ThumbHedges(), 25, "cell", 5);
        frosts(new ThumbHedges(), 39, "cell-10", 9);
        frosts(Lands.last(), 0, "hour-9990", 9);
        frosts(Lands.walled(), 0, "around", 2);
        frosts(Lands.walled(), 5, "around", 4);
        frosts(Lands.walled(), 5, "all/4", 10);
        frosts(Lands.walled(), 5, "all/4-1", 9);
        frosts(new ThumbHedges(), 5, "around+all", 0);
        frosts(Lands.walled(), 7, "hedge number", 1);
        frosts(new ThumbHedges(), 7, "hedge number", 0);
    }

    /** "of if just the SUM that is chosen is asked", "or and and look at both sides always". */
    static void promise18Chosen() {
        goes("if 1=1 then 5 else 7/0 end", 5);
        goes("if 1=2 then 7/0 else 5 end", 5);
        goes("if 1=1 then 1 else 2 end+if 1=2 then 10 else 20 end", 21);
        for (int i = 0; i < 8; i++) {
            boolean a = (i & 1) > 0;
            boolean b = (i & 2) > 0;
            boolean c = (i & 4) > 0;
            String first = a ? "1=1" : "1=2";
            String second = b ? "2>1" : "2<1";
            String third = c ? "3>=3" : "3#3";
            goes("if " + first + " or " + second + " and " + third + " then 1 else 2 end", a || b && c ? 1 : 2);
            goes("if " + first + " and " + second + " or " + third + " then 1 else 2 end", a && b || c ? 1 : 2);
            goes("if not " + first + " or not " + second + " and not " + third + " then 1 else 2 end",
                    !a || !b && !c ? 1 : 2);
            goes("if not not " + first + " and " + second + " and " + third + " then 1 else 2 end", a && b && c ? 1 : 2);
            goes("if " + first + " or " + second + " or " + third + " then 1 else 2 end", a || b || c ? 1 : 2);
        }
    }

    /** Each sign one below, at, and one above. */
    static void promise18Asked() {
        String[] signs = {"<", "<=", ">", ">=", "=", "#"};
        boolean[][] holds = {{true, false, false}, {true, true, false}, {false, false, true}, {false, true, true},
            {false, true, false}, {true, false, true}};
        for (int i = 0; i < 6; i++) {
            for (int k = 0; k < 3; k++) {
                goes("if " + (4 + k) + signs[i] + "5 then 1 else 2 end", holds[i][k] ? 1 : 2);
                goes("if -" + (6 - k) + signs[i] + "-5 then 1 else 2 end", holds[i][k] ? 1 : 2);
                goes("if not " + (4 + k) + signs[i] + "5 then 1 else 2 end", holds[i][k] ? 2 : 1);
            }
        }
    }

    /** "From the left", and the first of two laws is not the second. */
    static void promise18FromTheLeft() {
        goes("10-3-2", 5);
        goes("10-3+2", 9);
        goes("80/4/2", 10);
        goes("80/4*2", 40);
        goes("7*3/2", 10);
        goes("7/2*3", 9);
        goes("1+2*3-4/2", 5);
        goes("-2*3+1", -5);
        goes("far 0 of 1+1", 2);
        goes("hedge 40+1", 1);
    }
}
