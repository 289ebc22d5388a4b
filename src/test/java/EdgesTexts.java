/** Boundaries of promises 5 to 9: the tape, TEXTS, the latest FAULT, THE TEXT. */
final class EdgesTexts {
    private static final String BLANK = " ";

    private EdgesTexts() {
    }

    private static void due(String call, long got, long want) {
        Check.due(call, got, want);
    }

    private static void due(String call, boolean got, boolean want) {
        Check.due(call, got, want);
    }

    private static ThumbHedges withTape(int bytes) {
        ThumbHedges x = Lands.ordinary();
        Check.tape(x, BLANK.repeat(bytes));
        return x;
    }

    /** "NONE, and none come, if there would be more than 300." */
    static void promise05MoreThanThreeHundred() {
        ThumbHedges x = new ThumbHedges();
        for (int i = 1; i <= 15; i++) {
            due("5 feed", x.feed(0, 0, 0, 0, 0), 20 * i);
            due("5 bytes", x.about(6), 20 * i);
        }
        due("5 a sixteenth", x.feed(0, 0, 0, 0, 0), -1);
        due("5 none came", x.about(6), 300);
        due("5 279", withTape(279).feed(0, 0, 0, 0, 0), 299);
        due("5 280", withTape(280).feed(0, 0, 0, 0, 0), 300);
        for (int bytes : new int[] {281, 282, 299, 300}) {
            Edge.refused("5 " + bytes, () -> withTape(bytes), y -> y.feed(1, 2, 3, 4, 5), -1);
        }
    }

    /** "Behind the tape": also behind what end(n) has left, be it nothing. */
    static void promise05BehindTheTape() {
        ThumbHedges x = new ThumbHedges();
        x.feed(0x63757420, 0x2A2A2A2A, 0x2A2A2A2A, 0x2A2A2A2A, 0x2A2A2A2A);
        x.end(4);
        due("5 behind 4", x.feed(0x303B2020, 0x20202020, 0x20202020, 0x20202020, 0x20202020), 24);
        due("5 cut 0;", x.text(), 0);
        due("5 behind none", x.feed(0x6375743B, 0, 0, 0, 0), 20);
        x.text();
        due("5 cut;", x.fault(1), 3);
    }

    /** "The highest of a first": bytes 0 and 255 are bytes too, at each of the twenty places. */
    static void promise05TwentyBytes() {
        for (int place = 0; place < 20; place++) {
            for (int sign : new int[] {0, 127, 128, 255}) {
                ThumbHedges x = new ThumbHedges();
                StringBuilder signs = new StringBuilder(BLANK.repeat(20));
                signs.setCharAt(place, (char) sign);
                Check.tape(x, signs.toString());
                due("5 text with byte " + sign, x.text(), -1);
                due("5 its FAULT", x.fault(0), 1);
                due("5 its place", x.fault(1), place);
            }
        }
        ThumbHedges x = new ThumbHedges();
        due("5 all 255", x.feed(-1, -1, -1, -1, -1), 20);
        due("5 the lowest numbers", x.feed(Edge.MIN, Edge.MIN, Edge.MIN, Edge.MIN, Edge.MIN), 40);
        due("5 the highest numbers", x.feed(Edge.MAX, Edge.MAX, Edge.MAX, Edge.MAX, Edge.MAX), 60);
    }

    /** "NONE, and nothing is done, if it has not so many, or n is below 0." */
    static void promise06NotSoMany() {
        for (int bytes : new int[] {0, 1, 7, 20, 299, 300}) {
            Edge.of("6 end(n) of " + bytes, () -> withTape(bytes), (x, n) -> x.end(n)).from(0, 0).to(bytes, bytes)
                    .others(-1);
        }
        due("6 of a new object", new ThumbHedges().end(0), 0);
        due("6 of a new object", new ThumbHedges().end(1), -1);
    }

    /** "The tape has its first n bytes alone": what was behind is gone for good. */
    static void promise06TheFirstAlone() {
        ThumbHedges x = withTape(300);
        for (int n = 300; n >= 0; n -= 50) {
            due("6 end(" + n + ")", x.end(n), n);
            due("6 bytes", x.about(6), n);
            due("6 one more isn't there", x.end(n + 1), -1);
        }
        Check.tape(x, "goes 1;?");
        due("6 all", x.end(8), 8);
        due("6 one less", x.end(7), 7);
        due("6 whole", x.text(), 2);
    }

    /** Nor is it read, whatever it was: digits, letters, signs. */
    static void promise06WhatLiesBehind() {
        String[] tapes = {"goes 1   ;", "goes 111;", "goes aroundd;", "goes if 1<=2", "goes if 1>=2", "goes hourr", "goes 1;?"};
        int[] ends = {6, 6, 11, 10, 10, 9, 7};
        for (int i = 0; i < tapes.length; i++) {
            ThumbHedges x = new ThumbHedges();
            Check.tape(x, tapes[i]);
            x.end(ends[i]);
            boolean whole = tapes[i].charAt(ends[i] - 1) == ';';
            due("6 text of '" + tapes[i] + "'", x.text(), whole ? 0 : -1);
            due("6 its FAULT", x.fault(0), whole ? 0 : 1);
            due("6 at the length", x.fault(1), whole ? -1 : ends[i]);
        }
    }

    /** The tape is empty: a TEXT without CLAUSES. */
    static void promise07EmptyTape() {
        ThumbHedges x = new ThumbHedges();
        due("7 text()", x.text(), 0);
        due("7 no FAULT", x.fault(0), 0);
        due("7 no place", x.fault(1), -1);
        due("7 nothing to do", x.played(0), -1);
        x.by(0);
        due("7 frosts without", x.hedge(0, 3), 3);
        Check.tape(x, BLANK.repeat(299) + "\n");
        due("7 300 blanks", x.text(), 1);
    }

    /** "Of up to 300 bytes": the 300th is read, also as a part of a TOKEN. */
    static void promise07ThreeHundredBytes() {
        String blanks = BLANK.repeat(293);
        Check.fault(blanks + "goes 1;", 0, -1);
        Check.fault("goes 1" + blanks + ";", 0, -1);
        Check.fault(blanks + "goes 1;".substring(1) + "?", 1, 293);
        Check.fault("goes 1;" + blanks.substring(1) + "?", 1, 299);
        Check.fault("goes 1 " + blanks, 1, 300);
        Check.fault("goes 1;" + blanks.substring(4) + "goes", 4, 296);
        Check.fault("goes " + "1+".repeat(147) + ";", 1, 299);
        Check.fault("goes " + "1+".repeat(146) + "11;", 0, -1);
    }

    /** A TOKEN that ends with the tape, at 300: a word, the begin of one, a NUMBER, a sign. */
    static void promise07TokensAtTheEnd() {
        String[] ends = {"go", "goes", "g", "frost", "goes 1", "cow 24", "goes if 1<", "goes if 1>", "goes if 1<=", "goes (",
            "goes hour", "goes a", "goes hou", "goes if 1<2 t"};
        int[] faults = {300, 300, 299, 295, 300, 300, 300, 300, 300, 300, 300, 299, 297, 299};
        for (int i = 0; i < ends.length; i++) {
            Check.fault(BLANK.repeat(300 - ends[i].length()) + ends[i], 1, faults[i]);
        }
        Check.fault(BLANK.repeat(289) + "goes 123456", 2, 294);
    }

    /** What was read ahead leaves nothing behind, with a FAULT or without, however long it was. */
    static void promise07NothingIsLeft() {
        ThumbHedges x = new ThumbHedges();
        x.cow(12, 3);
        for (int i = 0; i < 8; i++) {
            due("7 a FAULT at the end", Check.text(x, "goes " + "1+".repeat(140) + "?"), -1);
            due("7 a FAULT within", Check.text(x, "frosts 1;goes (((if 1<2 then 1 else (("), -1);
            x.back();
            x.cow(12, 3);
            due("7 whole", Check.text(x, "goes 1" + "+1".repeat(40) + ";plant 1;plant 2;plant 3;"), 0);
            x.by(0);
            due("7 what it says", x.of(0, 2), 41);
            due("7 whole", Check.text(x, "frosts 8;"), 1);
            x.by(1);
            due("7 what it says", x.hedge(0, 3), 8);
            due("7 no other law", x.of(0, 2), 1);
            due("7 no deeds", x.played(1), -1);
            due("7 none PLANTED", x.is(4), 0);
        }
    }

    /** Both laws in one TEXT, the one ahead of the other or behind it, with deeds between. */
    static void promise07BothLaws() {
        String[] texts = {"frosts number-3;goes cell+1;", "goes cell+1;frosts number-3;",
            "plant 1;goes cell+1;plant 2;frosts number-3;plant 3;", "frosts number-3;hour 1;goes cell+1;"};
        for (String text : texts) {
            ThumbHedges x = new ThumbHedges();
            x.cow(12, 3);
            due("7 whole", Check.text(x, text), 0);
            x.by(0);
            due("7 goes", x.of(0, 2), 13);
            due("7 frosts", x.hedge(9, 3), 6);
        }
    }

    /** "(empty then)", with a FAULT or without. */
    static void promise07TheTapeIsEmptyThen() {
        ThumbHedges x = new ThumbHedges();
        due("7 whole", Check.text(x, "goes 1;"), 0);
        due("7 empty then", x.about(6), 0);
        due("7 a FAULT", Check.text(x, "goes 1"), -1);
        due("7 empty then", x.about(6), 0);
        due("7 no TEXT more", x.about(2), 1);
        due("7 nothing is left of it", x.text(), 1);
    }

    /** "Or (the tape stays) there are 4." */
    static void promise07ThereAreFour() {
        ThumbHedges x = new ThumbHedges();
        for (int i = 0; i < 4; i++) {
            due("7 one by one", Check.text(x, "cut " + i + ";"), i);
            due("7 so many", x.about(2), i + 1);
        }
        Edge.refused("7 a fifth", Lands::full, y -> y.text(), -1);
        Check.tape(x, "cut 4;");
        due("7 a fifth", x.text(), -1);
        due("7 the tape stays", x.about(6), 6);
        due("7 it was not read", x.fault(0), 0);
        Check.tape(x, "cut ?");
        due("7 a fifth with a FAULT", x.text(), -1);
        due("7 the tape stays", x.about(6), 5);
        due("7 it was not read", x.fault(0), 0);
        due("7 nor its place", x.fault(1), -1);
        x.back();
        due("7 none again: it is read now", x.text(), -1);
        due("7 its FAULT", x.fault(0), 1);
        due("7 its place", x.fault(1), 4);
        due("7 empty then", x.about(6), 0);
    }

    /** A TEXT with a FAULT is none: the others are as they were. */
    static void promise07WithAFault() {
        ThumbHedges x = new ThumbHedges();
        due("7 first", Check.text(x, "frosts 7;plant 3;"), 0);
        due("7 a FAULT late", Check.text(x, "frosts 8;plant 4;plant 5;cut"), -1);
        due("7 one", x.about(2), 1);
        x.by(0);
        due("7 frosts", x.hedge(0, 3), 7);
        due("7 played", x.played(0), -1);
        due("7 as it was", x.is(2), 8);
        due("7 no second", x.played(1), -2);
        due("7 second", Check.text(x, "plant 6;"), 1);
        due("7 played", x.played(1), -1);
        due("7 nothing else", x.is(2), 8 | 64);
    }

    /** "NONE for others, and ahead of any." */
    static void promise08AheadOfAny() {
        for (int what : new int[] {-2, -1, 0, 1, 2, Edge.MIN, Edge.MAX}) {
            Edge.refused("8 fault(" + what + ") ahead of any", Lands::bare, x -> x.fault(what), -1);
        }
        ThumbHedges x = new ThumbHedges();
        Check.tape(x, "cut ?");
        due("8 it isn't read yet", x.fault(0), -1);
        due("8 nor its place", x.fault(1), -1);
        x.text();
        due("8 read", x.fault(0), 1);
        due("8 its place", x.fault(1), 4);
    }

    static void promise08Others() {
        Edge.of("8 fault(n) of 'cut 40;'", Lands::ordinary, (x, n) -> x.fault(n)).from(0, 2).to(1, 4).others(-1);
        Edge.of("8 fault(n) without", Lands::full, (x, n) -> x.fault(n)).from(0, 0).to(1, -1).others(-1);
    }

    /** "Of the latest text that was read": one without a FAULT, too. */
    static void promise08TheLatest() {
        ThumbHedges x = new ThumbHedges();
        Check.text(x, "goes 1; ?");
        due("8 its FAULT", x.fault(0), 1);
        due("8 its place", x.fault(1), 8);
        Check.text(x, "goes 10000;");
        due("8 its FAULT", x.fault(0), 2);
        due("8 its place", x.fault(1), 5);
        Check.text(x, "goes 1000;");
        due("8 without", x.fault(0), 0);
        due("8 no place", x.fault(1), -1);
        Check.text(x, "?");
        due("8 its FAULT", x.fault(0), 1);
        due("8 place 0", x.fault(1), 0);
    }

    /** "(NONE: none)", "False for others": what rules stays then. */
    static void promise09Others() {
        Edge.of("9 by(n) without TEXTS", Lands::bare, (x, n) -> x.by(n) ? 1 : 0).from(-1, 1).to(-1, 1).others(0);
        Edge.of("9 by(n) of 2", Lands::ordinary, (x, n) -> x.by(n) ? 1 : 0).from(-1, 1).to(1, 1).others(0);
        Edge.of("9 by(n) of 4", Lands::full, (x, n) -> x.by(n) ? 1 : 0).from(-1, 1).to(3, 1).others(0);
    }

    static void promise09None() {
        ThumbHedges x = Lands.full();
        for (int text = -1; text < 4; text++) {
            due("9 by(" + text + ")", x.by(text), true);
            due("9 THE TEXT", x.about(3), text);
        }
        due("9 others", x.by(4), false);
        due("9 it stays", x.about(3), 3);
        x.by(0);
        due("9 goes by the first", x.of(0, 2), 0);
        due("9 none", x.by(-1), true);
        due("9 goes without", x.of(0, 2), 1);
        due("9 frosts without", x.hedge(13, 3), 3);
        due("9 none again", x.by(-1), true);
        due("9 is no STEP", x.about(4), 30);
    }
}
