/** Each promise by hand: ordinary inputs, the edges that the document names, and wrong inputs. */
public final class PromisesTest {
    private static final int FULL = 0xFFFFF;
    private static final int MIN = Integer.MIN_VALUE;
    private static final int MAX = Integer.MAX_VALUE;

    public static void main(String[] args) {
        newObject();
        told();
        tapes();
        readTexts();
        faults();
        plantedAndCut();
        pressed();
        gone();
        hours();
        cowsComeHome();
        frost();
        lastHour();
        played();
        years();
        undone();
        whatIs();
        laws();
        ways();
        shapes();
        walks();
        homeAndGates();
        hands();
        looks();
        whoseLaw();
        images();
        Check.end("PromisesTest");
    }

    private static void due(String call, long got, long want) {
        Check.due(call, got, want);
    }

    private static void due(String call, boolean got, boolean want) {
        Check.due(call, got, want);
    }

    /** Promise 1. */
    private static void newObject() {
        ThumbHedges x = new ThumbHedges();
        int[] about = {0, 0, 0, -1, 0, 0, 0, 0};
        for (int i = 0; i < 8; i++) {
            due("1 about(" + i + ")", x.about(i), about[i]);
        }
        int[] is = {0, 331, 0, 0, 0};
        for (int i = 0; i < 5; i++) {
            due("1 is(" + i + ")", x.is(i), is[i]);
        }
        due("1 book(NONE, 0)", x.book(-1, 0), 0);
        due("1 fault(0)", x.fault(0), -1);
        due("1 fault(1)", x.fault(1), -1);
        due("1 undo", x.undo(), -1);
        x.plant(3);
        x.cow(1, 1);
        x.gate(0, true);
        x.hour(2);
        due("1 back to the bare land", x.back(), 0);
        due("1 is(4) then", x.is(4), 0);
        due("1 is(1) then", x.is(1), 331);
        due("1 about(1) then", x.about(1), 0);
        due("1 about(4) then", x.about(4), 0);
        due("1 about(7) then", x.about(7), 0);
    }

    /** Promises 2, 3, 4. */
    private static void told() {
        ThumbHedges x = new ThumbHedges();
        due("2 -1", x.hand(-1, 0), -1);
        due("2 above", x.hand(FULL + 1, 0), -1);
        due("2 south above", x.hand(0, FULL + 1), -1);
        due("2 south below", x.hand(0, MIN), -1);
        due("2 south -1", x.hand(0, -1), -1);
        due("2 none told", x.about(0), 0);
        due("2 empty", x.hand(0, 0), 0);
        due("2 full", x.hand(FULL, FULL), 1);
        due("2 full east", x.turned(1, 0, false), FULL);
        due("2 full south", x.turned(1, 0, true), FULL);
        due("2 third", x.hand(5, 6), 2);
        due("2 fourth", x.hand(5, 6), 3);
        due("2 fifth", x.hand(5, 6), -1);
        due("2 four", x.about(0), 4);
        due("3 cell -1", x.cow(-1, 0), -1);
        due("3 cell 25", x.cow(25, 0), -1);
        due("3 way 4", x.cow(0, 4), -1);
        due("3 way -1", x.cow(0, -1), -1);
        for (int i = 0; i < 5; i++) {
            due("3 cow " + i, x.cow(24 - i, i % 4), i);
        }
        due("3 sixth", x.cow(0, 0), -1);
        due("3 five", x.about(1), 5);
        due("3 its cell", x.of(2, 0), 22);
        due("3 its way", x.of(2, 1), 2);
        due("3 no steps", x.about(4), 0);
        int rim = 0;
        for (int cell = -2; cell < 28; cell++) {
            boolean at = cell >= 0 && cell < 25 && (cell < 5 || cell > 19 || cell % 5 == 0 || cell % 5 == 4);
            due("4 gate " + cell, x.gate(cell, true), at);
            rim |= at ? 1 << cell : 0;
        }
        due("4 all", x.about(7), rim);
        due("4 32 is no cell", x.gate(32, false), false);
        due("4 none", x.gate(9, false), true);
        due("4 none again", x.gate(9, false), true);
        due("4 all but one", x.about(7), rim & ~(1 << 9));
        due("4 within", x.gate(12, false), false);
        due("4 told on a cow: not home", x.of(0, 0), 24);
    }

    /** Promises 5, 6. */
    private static void tapes() {
        ThumbHedges x = new ThumbHedges();
        for (int i = 1; i <= 15; i++) {
            due("5 feed " + i, x.feed(0x20202020, 0x20202020, 0x20202020, 0x20202020, 0x20202020), 20 * i);
        }
        due("5 more than 300", x.feed(0, 0, 0, 0, 0), -1);
        due("5 none came", x.about(6), 300);
        due("6 not so many", x.end(301), -1);
        due("6 below 0", x.end(-1), -1);
        due("6 stays", x.about(6), 300);
        due("6 all", x.end(300), 300);
        due("6 281", x.end(281), 281);
        due("5 would be 301", x.feed(0, 0, 0, 0, 0), -1);
        due("6 280", x.end(280), 280);
        due("6 not so many now", x.end(281), -1);
        due("5 300", x.feed(0x20202020, 0x20202020, 0x20202020, 0x20202020, 0x3B202020), 300);
        due("7 a text with a fault", x.text(), -1);
        due("8 its byte", x.fault(1), 296);
        due("6 empty", x.end(0), 0);
        due("5 the highest of a first", x.feed(0x63757420, 0x303B0000, 0, 0, 0), 20);
        due("6 six", x.end(6), 6);
        due("7 cut 0;", x.text(), 0);
        due("7 is played", x.played(0), 0);
        whatLiesBehindTheEnd();
    }

    /** Bytes that end(n) takes from the tape are not read, whatever they were. */
    private static void whatLiesBehindTheEnd() {
        String[] tapes = {"goes 1   ;           ", "goes 111;           ", "goes aroundd;       ", "goes if 1<=2        "};
        int[] ends = {6, 6, 11, 10};
        for (int i = 0; i < 4; i++) {
            ThumbHedges x = new ThumbHedges();
            Check.tape(x, tapes[i]);
            x.end(ends[i]);
            due("7 has a fault", x.text(), -1);
            due("8 the end can't stand there", x.fault(0), 1);
            due("8 at the length", x.fault(1), ends[i]);
        }
    }

    /** Promises 7, 8, 9. */
    private static void readTexts() {
        ThumbHedges x = new ThumbHedges();
        due("9 none there", x.by(0), false);
        due("9 none", x.by(-1), true);
        due("7 empty", x.text(), 0);
        due("8 without", x.fault(0), 0);
        due("8 no place", x.fault(1), -1);
        due("8 others", x.fault(2), -1);
        due("8 others", x.fault(-1), -1);
        Check.tape(x, "goes ;");
        due("7 a fault", x.text(), -1);
        due("7 the tape is empty", x.about(6), 0);
        due("7 no text more", x.about(2), 1);
        due("8 its fault", x.fault(0), 1);
        due("8 its place", x.fault(1), 5);
        due("7 second", Check.text(x, "plant 1;"), 1);
        due("7 the tape is empty", x.about(6), 0);
        due("7 third", Check.text(x, "frosts 1;"), 2);
        due("7 fourth", Check.text(x, "goes 0;"), 3);
        Check.tape(x, "cut");
        due("7 there are 4", x.text(), -1);
        due("7 the tape stays", x.about(6), 3);
        due("8 it was not read", x.fault(0), 0);
        due("9 fourth", x.by(3), true);
        due("9 told", x.about(3), 3);
        due("9 others", x.by(4), false);
        due("9 others", x.by(-2), false);
        due("9 stays", x.about(3), 3);
        due("9 none", x.by(-1), true);
        due("9 none then", x.about(3), -1);
        due("7 four", x.about(2), 4);
    }

    /** Promises 7, 8: the FAULTS one by one. */
    private static void faults() {
        Check.fault("", 0, -1);
        Check.fault("  \n ", 0, -1);
        Check.fault("frosts number+cell*around-all/hour;goes who+way+hour+cell+around+all;", 0, -1);
        Check.fault("cow 24 way 3;gate 24;plant 39;cut 39;press 3 turn 7;go 3 by 4;hour 60;hour 1;", 0, -1);
        Check.fault("goes if not 1<2 and 3<=4 or 5>6 and 7>=8 or 9=10 and 1#2 then -1 else far-1of(2)end;", 0, -1);
        Check.fault("goes\n0009999;", 0, -1);
        Check.fault("goes 1\t;", 1, 6);
        Check.fault("goes 1\u00e9;", 1, 6);
        Check.fault("goes 1\0;", 1, 6);
        Check.fault("Goes 1;", 1, 0);
        Check.fault("goe 1;", 1, 0);
        Check.fault("goess 1;", 1, 0);
        Check.fault("goes1;", 0, -1);
        Check.fault("goes 1;;", 1, 7);
        Check.fault("goes 1", 1, 6);
        Check.fault("goes 1  ", 1, 8);
        Check.fault("goes 1 2;", 1, 7);
        Check.fault("goes 1 20000;", 1, 7);
        Check.fault("20000", 1, 0);
        Check.fault("cow 0 20000 1;", 1, 6);
        Check.fault("goes 1+;", 1, 7);
        Check.fault("goes 1*+2;", 1, 7);
        Check.fault("goes +2;", 1, 5);
        Check.fault("goes --2;", 0, -1);
        Check.fault("goes (1;", 1, 7);
        Check.fault("goes 1);", 1, 6);
        Check.fault("goes if 1<2 then 3 else 4;", 1, 25);
        Check.fault("goes if 1<2 then 3 end;", 1, 19);
        Check.fault("goes if 1<2<3 then 3 else 4 end;", 1, 11);
        Check.fault("goes if 1< =2 then 3 else 4 end;", 1, 11);
        Check.fault("goes if 1=<2 then 3 else 4 end;", 1, 10);
        Check.fault("goes if (1<2) then 3 else 4 end;", 1, 10);
        Check.fault("goes not 1<2;", 1, 5);
        Check.fault("goes far 1 of;", 1, 13);
        Check.fault("goes cow;", 1, 5);
        Check.fault("goes goes;", 1, 5);
        Check.fault("way 1;", 1, 0);
        Check.fault("cow 1 turn 1;", 1, 6);
        Check.fault("cow hour way 1;", 1, 4);
        Check.fault("cow -1 way 1;", 1, 4);
        Check.fault("go 1 way 1;", 1, 5);
        Check.fault("press 1 by 1;", 1, 8);
        Check.fault("goes ?;", 1, 5);
        Check.fault("cut ?;", 1, 4);
        Check.fault("goesz 1;", 1, 0);
        Check.fault("goesa 1;", 1, 0);
        Check.fault("goesA 1;", 1, 0);
        Check.fault("goesZ 1;", 1, 0);
        Check.fault("goes{1;", 1, 4);
        Check.fault("goes`1;", 1, 4);
        Check.fault("goes[1;", 1, 4);
        Check.fault("goes@1;", 1, 4);
        Check.fault("goes 1:;", 1, 6);
        Check.fault("goes if 1+2 then 1 else 2 end;", 1, 12);
        Check.fault("goes if 1;2 then 1 else 2 end;", 1, 9);
        Check.fault("goes if number<1 then 1 else 2 end;", 5, 8);
        Check.fault("goes if 1<number then 1 else 2 end;", 5, 10);
        Check.fault("goes if 1<2 or number<1 then 1 else 2 end;", 5, 15);
        Check.fault("goes if 1<2 and number<1 then 1 else 2 end;", 5, 16);
        Check.fault("goes if 1<2 then number else 2 end;", 5, 17);
        Check.fault("goes if 1<2 then 1 else number end;", 5, 24);
        Check.fault("goes 1+number;", 5, 7);
        Check.fault("goes 1*number;", 5, 7);
        Check.fault("goes far number of 1;", 5, 9);
        Check.fault("goes far 1 of number;", 5, 14);
        Check.fault("goes hedge number;", 5, 11);
        Check.fault("goes (number);", 5, 6);
        Check.fault("goes -number;", 5, 6);
        Check.fault("cow 25 way 1;", 2, 4);
        Check.fault("cow 1 way 4;", 2, 10);
        Check.fault("gate 25;", 2, 5);
        Check.fault("plant 40;", 2, 6);
        Check.fault("cut 40;", 2, 4);
        Check.fault("press 4 turn 1;", 2, 6);
        Check.fault("press 0 turn 8;", 2, 13);
        Check.fault("go 4 by 1;", 2, 3);
        Check.fault("go 0 by 5;", 2, 8);
        Check.fault("cow 0 way 0;gate 0;plant 0;cut 0;press 0 turn 0;go 0 by 0;", 0, -1);
        Check.fault("hour 0;", 2, 5);
        Check.fault("hour 61;", 2, 5);
        Check.fault("cut 99999999999999999999;", 2, 4);
        Check.fault("goes 4294967296;", 2, 5);
        Check.fault("goes 10000?", 2, 5);
        Check.fault("goes hour+number;", 5, 10);
        Check.fault("frosts 2*way;", 5, 9);
        Check.fault("frosts 2*who;", 5, 9);
        Check.fault("frosts 2 who;", 1, 9);
        Check.fault("frosts 1;goes 1;frosts 2;", 4, 16);
        Check.fault("frosts 1;frosts;", 4, 9);
        manyReadings();
        nestings();
        manyClauses();
    }

    /** What was read ahead leaves nothing behind, however long it was. */
    private static void manyReadings() {
        ThumbHedges x = new ThumbHedges();
        x.cow(7, 3);
        for (int i = 0; i < 12; i++) {
            due("7 a fault", Check.text(x, "goes " + "1+".repeat(60) + ";"), -1);
            due("7 a fault", Check.text(x, "frosts 1;goes (((((((((1"), -1);
        }
        due("7 long", Check.text(x, "cow 1 way 2;plant 3;cut 3;plant 4;"), 0);
        x.back();
        x.cow(7, 3);
        due("7 whole", Check.text(x, "goes who+cell*way;"), 0);
        due("7 whole", Check.text(x, "cow 12 way 3;"), 1);
        x.by(0);
        due("18 goes", x.of(0, 2), 21);
        due("20 without", x.hedge(0, 3), 3);
        due("15 one clause alone", x.played(1), -1);
        due("15 nothing else", x.is(4), 0);
        due("15 nothing else", x.about(1), 2);
        due("15 its cell", x.of(1, 0), 12);
        due("15 its way", x.of(1, 1), 3);
        due("7 both", Check.text(x, "frosts number-3;goes cell+1;"), 2);
        due("7 both", Check.text(x, "goes cell+2;frosts number-4;"), 3);
        x.by(2);
        due("18 goes", x.of(1, 2), 13);
        due("20 frosts", x.hedge(9, 3), 6);
        x.by(3);
        due("18 goes", x.of(1, 2), 14);
        due("20 frosts", x.hedge(9, 3), 5);
    }

    private static void nestings() {
        Check.fault("goes --------1;", 0, -1);
        Check.fault("goes ---------1;", 3, 13);
        Check.fault("goes ----(---(1));", 3, 13);
        Check.fault("goes ((((((((1))))))))-((((((((1))))))));", 0, -1);
        Check.fault("goes --------1---------1;", 0, -1);
        Check.fault("goes --------1----------1;", 3, 23);
        Check.fault("goes far far far far far far far far 1 of 1 of 1 of 1 of 1 of 1 of 1 of 1 of 1;", 0, -1);
        Check.fault("goes far(1)of-------1;", 0, -1);
        Check.fault("goes far(1)of--------1;", 3, 20);
        Check.fault("goes far hedge 1 of-------1;", 0, -1);
        Check.fault("goes if not not not not not not not 1<2 then 1 else 2 end;", 0, -1);
        Check.fault("goes if not not not not not not not not 1<2 then 1 else 2 end;", 3, 36);
        Check.fault("goes if not not not not not not not 1<(2) then 1 else 2 end;", 3, 38);
        Check.fault("goes if not not not not not not not 1<2 then -------1 else -------2 end+1;", 0, -1);
        Check.fault("goes if 1<2 then 1 else --------2 end;", 3, 31);
        Check.fault("goes ((((((((number;", 5, 13);
        Check.fault("goes (((((((();", 1, 13);
    }

    private static void manyClauses() {
        String cuts = "cut 0;";
        String all = cuts.repeat(24);
        Check.fault(all, 0, -1);
        Check.fault(all + "cut 77;", 6, 144);
        Check.fault(all + "goes 1;", 6, 144);
        Check.fault(all + "cell", 1, 144);
        Check.fault(all + "?", 1, 144);
        Check.fault("goes 1;" + cuts.repeat(23) + " goes 1;", 4, 146);
        Check.fault("goes 1;" + cuts.repeat(23) + " frosts 1;", 6, 146);
        Check.fault("goes 1;frosts 2;" + cuts.repeat(22), 0, -1);
    }

    /** Promises 10, 11. */
    private static void plantedAndCut() {
        ThumbHedges x = new ThumbHedges();
        for (int wrong : new int[] {-1, 40, 64, MIN, MAX}) {
            due("10 others", x.plant(wrong), false);
            due("11 others", x.cut(wrong), false);
        }
        due("11 not there", x.cut(7), false);
        due("11 no step", x.about(4), 0);
        due("10 plant", x.plant(0), true);
        due("10 plant", x.plant(39), true);
        due("10 there", x.plant(39), false);
        due("10 steps", x.about(4), 2);
        due("10 east", x.is(2), 1);
        due("10 south", x.is(3), 1 << 19);
        due("11 cut", x.cut(39), true);
        due("11 gone", x.is(3), 0);
        due("11 cut again", x.cut(39), false);
        due("11 steps", x.about(4), 3);
    }

    /** Promise 12. */
    private static void pressed() {
        ThumbHedges x = new ThumbHedges();
        due("12 no hand", x.press(0, 0), false);
        x.hand(3, 0);
        x.plant(30);
        due("12 turn 8", x.press(0, 8), false);
        due("12 turn -1", x.press(0, -1), false);
        due("12 hand 1", x.press(1, 0), false);
        due("12 hand -1", x.press(-1, 0), false);
        due("12 press", x.press(0, 0), true);
        due("12 as its: east", x.is(2), 3);
        due("12 as its: south", x.is(3), 0);
        due("12 again", x.press(0, 0), true);
        due("12 each a step", x.about(4), 3);
        due("12 turned", x.press(0, 5), true);
        due("12 its east", x.is(2), 0);
        due("12 its south", x.is(3), 1 << 19 | 1 << 14);
    }

    /** Promise 13. */
    private static void gone() {
        ThumbHedges x = new ThumbHedges();
        due("13 no cow", x.go(0, 0), -1);
        x.cow(0, 1);
        due("13 rim", x.go(0, 0), -1);
        due("13 rim", x.go(0, 3), -1);
        due("13 way 4", x.go(0, 4), -1);
        due("13 way -1", x.go(0, -1), -1);
        due("13 cow 1", x.go(1, 1), -1);
        due("13 cow -1", x.go(-1, 1), -1);
        due("13 no steps", x.about(4), 0);
        x.plant(0);
        due("13 hedge", x.go(0, 1), -1);
        due("13 south", x.go(0, 2), 5);
        due("13 its way", x.of(0, 1), 2);
        due("13 steps", x.about(4), 2);
        x.gate(10, true);
        due("13 to the gate", x.go(0, 2), 10);
        due("13 home", x.of(0, 0), -1);
        due("13 its way", x.of(0, 1), 2);
        due("13 home can't go", x.go(0, 2), -1);
        due("13 by hand not written", x.book(-1, 0), 0);
        due("13 steps", x.about(4), 3);
        x.gate(10, false);
        due("13 is home still", x.of(0, 0), -1);
    }

    /** Promise 14. */
    private static void hours() {
        ThumbHedges x = new ThumbHedges();
        due("14 0", x.hour(0), -1);
        due("14 61", x.hour(61), -1);
        due("14 -1", x.hour(-1), -1);
        due("14 nothing", x.is(0), 0);
        due("14 nothing", x.about(4), 0);
        x.cow(12, 0);
        due("14 one", x.hour(1), 0);
        due("14 right first", x.of(0, 0), 13);
        due("14 its way", x.of(0, 1), 1);
        x.plant(33);
        due("14 right barred: on", x.hour(1), 0);
        due("14 on", x.of(0, 0), 14);
        x.plant(34);
        due("14 left", x.hour(1), 0);
        due("14 left", x.of(0, 0), 9);
        due("14 way", x.of(0, 1), 0);
        x.plant(24);
        x.plant(7);
        due("14 back", x.hour(1), 0);
        due("14 back", x.of(0, 0), 14);
        due("14 way", x.of(0, 1), 2);
        x.plant(29);
        x.plant(11);
        due("14 none", x.hour(1), 0);
        due("14 stays", x.of(0, 0), 14);
        due("14 way stays", x.of(0, 1), 2);
        due("14 hours", x.is(0), 5);
        due("14 60", x.hour(60), 0);
        due("14 hours", x.is(0), 65);
        due("14 steps", x.about(4), 30);
        whetherTheyGo();
    }

    private static void whetherTheyGo() {
        ThumbHedges x = new ThumbHedges();
        Check.text(x, "goes who-2;");
        x.by(0);
        for (int i = 0; i < 5; i++) {
            x.cow(12, 0);
        }
        x.hour(1);
        for (int i = 0; i < 5; i++) {
            due("14 goes says " + (i - 2), x.of(i, 0), i > 2 ? 13 : 12);
        }
    }

    private static void cowsComeHome() {
        ThumbHedges x = new ThumbHedges();
        x.gate(9, true);
        x.gate(10, true);
        x.cow(8, 0);
        x.cow(11, 2);
        x.cow(10, 2);
        due("14 both home", x.hour(1), 2);
        due("14 home", x.of(0, 0), -1);
        due("14 home", x.of(1, 0), -1);
        due("14 on the gate at first, not home", x.of(2, 0), 15);
        due("23 lines", x.book(-1, 7), 2);
        int[] first = {0, 1, 0};
        int[] second = {0, 1, 1};
        for (int i = 0; i < 3; i++) {
            due("23 book(0, " + i + ")", x.book(0, i), first[i]);
            due("23 book(1, " + i + ")", x.book(1, i), second[i]);
        }
        due("23 none such", x.book(2, 0), -2);
        due("23 others", x.book(0, 3), -2);
        due("23 others", x.book(0, -1), -2);
        due("23 others", x.book(-2, 0), -2);
        due("48 frost", x.ledger(0), 0);
        due("48 home", x.ledger(1), 2);
        due("48 others", x.ledger(2), -2);
        due("48 others", x.ledger(-1), -2);
        due("14 no more", x.hour(2), 0);
        due("23 no line more", x.book(-1, 0), 2);
        due("14 stays home", x.of(0, 0), -1);
        due("14 its way", x.of(0, 1), 1);
        due("14 its way", x.of(1, 1), 3);
        due("18 goes, home", x.of(0, 2), -100);
        due("17 undo", x.undo(), 2);
        due("17 undo", x.undo(), 1);
        due("17 undo", x.undo(), 0);
        due("17 not home", x.of(0, 0), 8);
        due("17 no lines", x.book(-1, 0), 0);
    }

    /** Draws: X is 331, 9852, 20802, 7699, .. : mod 40 that is 11, 12, 2, 19. */
    private static void frost() {
        ThumbHedges x = new ThumbHedges();
        Check.text(x, "frosts 2;");
        Check.text(x, "frosts 3;");
        x.by(0);
        x.plant(11);
        x.image();
        due("14 hour", x.hour(1), 0);
        due("14 drawn by 10: 2, not below 2", x.is(2), 1 << 11);
        due("14 two draws", x.is(1), 20802);
        x.back();
        x.by(1);
        x.hour(1);
        due("14 2 is below 3", x.is(2), 0);
        due("14 two draws", x.is(1), 20802);
        due("23 HOUR", x.book(0, 0), 0);
        due("23 frost", x.book(0, 1), 0);
        due("23 which", x.book(0, 2), 11);
        due("48 frost", x.ledger(0), 1);
        due("48 home", x.ledger(1), 0);
        x.back();
        x.by(-1);
        x.hour(1);
        due("14 without: 3", x.is(2), 0);
        x.back();
        x.cut(11);
        x.plant(12);
        x.by(1);
        x.hour(1);
        due("14 the draw is X as it was", x.is(2), 1 << 12);
        due("14 one draw", x.is(1), 9852);
        bookOfThirty();
    }

    /** All hedges, frosts 10: each HOUR one goes, if it is there yet. */
    private static void bookOfThirty() {
        ThumbHedges x = new ThumbHedges();
        x.hand(FULL, FULL);
        Check.text(x, "frosts 99;");
        x.by(0);
        x.press(0, 0);
        x.hour(60);
        x.press(0, 0);
        x.hour(30);
        due("23 30 at most", x.book(-1, 0), 30);
        due("48 all", x.ledger(0), 30);
        int before = 0;
        for (int i = 0; i < 30; i++) {
            due("23 in order", x.book(i, 0) >= before, true);
            before = x.book(i, 0);
        }
        int first = x.book(0, 0);
        int eldest = x.book(0, 2);
        int[] lines = new int[60];
        for (int i = 0; i < 60; i++) {
            lines[i] = x.book(i / 2, i % 2 * 2);
        }
        x.press(0, 0);
        x.hour(1);
        for (int i = 0; i < 58; i++) {
            due("23 the others move up", x.book(i / 2, i % 2 * 2), lines[i + 2]);
        }
        due("23 the eldest is gone", x.book(0, 0) > first, true);
        due("23 the latest", x.book(29, 0), 90);
        x.undo();
        due("17 the eldest is back", x.book(0, 0), first);
        due("17 the eldest is back", x.book(0, 2), eldest);
        due("23 none such", x.book(30, 0), -2);
    }

    private static void lastHour() {
        ThumbHedges x = new ThumbHedges();
        x.cow(12, 1);
        for (int i = 0; i < 166; i++) {
            x.hour(60);
        }
        due("22 9960", x.is(0), 9960);
        due("14 beyond", x.hour(40), -1);
        due("14 nothing", x.is(0), 9960);
        int there = x.foretold(39, 0);
        due("24 those that can pass", x.foretold(60, 0), there);
        x.image();
        due("7 text", Check.text(x, "hour 20;hour 20;plant 0;"), 0);
        due("15 those that can pass", x.played(0), 1);
        due("15 HOUR", x.is(0), 9999);
        due("15 ended", x.is(4), 0);
        due("14 none can pass", x.hour(1), -1);
        due("14 where", x.of(0, 0), there);
        due("24 none passes", x.foretold(5, 0), there);
        due("16 years", x.years(0, 40), 9999);
        due("17 undo", x.undo(), 29);
        due("50 back", x.back(), 9960);
        due("14 39", x.hour(39), 0);
        due("14 HOUR", x.is(0), 9999);
    }

    /** Promise 15. */
    private static void played() {
        ThumbHedges x = new ThumbHedges();
        due("15 none", x.played(0), -2);
        due("7 text", Check.text(x, "goes 0;gate 4;cow 3 way 3;plant 5;cut 5;press 0 turn 0;go 1 by 0;hour 2;frosts 1;"), 0);
        due("15 no hand", x.played(0), 5);
        due("15 what was done stays", x.about(7), 16);
        due("15 a cow", x.about(1), 1);
        due("15 steps", x.about(4), 2);
        x.back();
        due("7 again", Check.text(x, "goes 0;gate 4;cow 3 way 3;plant 5;cut 5;press 0 turn 0;go 1 by 0;hour 2;frosts 1;"), 0);
        x.hand(1, 0);
        due("15 all", x.played(0), -1);
        due("15 pressed", x.is(2), 1);
        due("15 gone home", x.of(0, 0), -1);
        due("15 hours", x.is(0), 2);
        due("15 steps", x.about(4), 6);
        due("15 not written", x.book(-1, 0), 0);
        due("15 others", x.played(1), -2);
        due("15 others", x.played(-1), -2);
        due("7 inner gate", Check.text(x, "gate 0;gate 12;gate 1;"), 1);
        due("15 not at the rim", x.played(1), 1);
        due("15 one gate more", x.about(7), 17);
        due("7 empty", Check.text(x, ""), 2);
        due("15 empty", x.played(2), -1);
        due("7 cows", Check.text(x, "cow 0 way 0;cow 1 way 0;cow 2 way 0;cow 7 way 0;cow 4 way 0;"), 3);
        due("15 a sixth can't be", x.played(3), 4);
        due("15 cows", x.about(1), 5);
    }

    /** Promise 16. */
    private static void years() {
        ThumbHedges x = new ThumbHedges();
        due("16 seed -1", x.years(-1, 1), -1);
        due("16 seed 10000", x.years(10000, 1), -1);
        due("16 n 0", x.years(0, 0), -1);
        due("16 n 41", x.years(0, 41), -1);
        due("16 no step", x.about(4), 0);
        due("16 seed 3: 337 is 1 of 7", x.years(3, 1), 0);
        due("16 X anew", x.is(1), (337 * 587 + 457) % 30817);
        due("16 nothing to cut", x.is(4), 0);
        due("16 one step", x.about(4), 1);
        due("16 seed 6: 343 is 0 of 7", x.years(6, 1), 0);
        due("16 hedge 343 / 7 mod 40 is planted", x.is(2), 1 << 9);
        due("16 again: it is there", x.years(6, 1), 0);
        due("16 still", x.is(4), 1);
        due("16 seed 87: 505 is 1 of 7, hedge 72 mod 40", x.years(87, 1), 0);
        due("16 32 is not there", x.is(4), 1);
        x.plant(32);
        x.years(87, 1);
        due("16 32 is cut", x.is(3), 0);
        due("16 no hands: 331 is 2 of 7", x.years(0, 1), 0);
        due("16 not pressed", x.is(4), 1);
        due("16 seed 4: 339 is 3 of 7, no cows", x.years(4, 1), 0);
        x.hand(2, 0);
        due("16 one hand by turn 7", x.years(0, 1), 0);
        due("16 pressed", x.is(3), x.turned(0, 7, true));
        due("16 pressed", x.is(2), 0);
        x.hand(4, 0);
        x.hand(8, 0);
        due("16 hand 331 mod 3 by turn 47 mod 8", x.years(0, 1), 0);
        due("16 pressed", x.is(2), x.turned(1, 7, false));
        due("16 pressed", x.is(3), x.turned(1, 7, true));
        x.press(0, 0);
        x.cow(12, 0);
        x.cow(12, 1);
        due("16 cow 339 mod 2 goes 48 mod 4", x.years(4, 1), 0);
        due("16 went north", x.of(1, 0), 7);
        due("16 its way", x.of(1, 1), 0);
        due("16 the other stays", x.of(0, 0), 12);
        due("16 seed 1: 333 is 4 of 7", x.years(1, 1), 1);
        due("16 an hour", x.of(0, 0), 13);
        int steps = x.about(4);
        due("16 40", x.years(9999, 40) >= 1, true);
        due("16 one step", x.about(4), steps + 1);
        yearsHome();
    }

    private static void yearsHome() {
        ThumbHedges x = new ThumbHedges();
        x.cow(5, 1);
        x.gate(0, true);
        due("16 goes home", x.years(4, 1), 0);
        due("16 home", x.of(0, 0), -1);
        due("16 not in an hour: not written", x.book(-1, 0), 0);
        due("16 home can't go", x.years(4, 1), 0);
        due("17 back", x.undo(), 1);
        due("17 back", x.undo(), 0);
        due("17 not home", x.of(0, 0), 5);
        due("17 its way", x.of(0, 1), 1);
        due("17 X", x.is(1), 331);
    }

    /** Promise 17. */
    private static void undone() {
        ThumbHedges x = new ThumbHedges();
        due("17 none", x.undo(), -1);
        x.cow(0, 1);
        x.plant(3);
        x.hour(2);
        x.cow(20, 0);
        x.hour(1);
        x.go(1, 1);
        x.gate(2, true);
        x.hand(7, 7);
        due("17", x.undo(), 4);
        due("17 go", x.of(1, 0), 21);
        due("17 go", x.of(1, 1), 1);
        due("17", x.undo(), 3);
        due("17 as told", x.of(1, 0), 20);
        due("17 HOUR", x.is(0), 2);
        due("17 X", x.is(1), 20802);
        due("17", x.undo(), 2);
        due("17 as told still", x.of(1, 0), 20);
        due("17 as told still", x.of(1, 1), 0);
        due("17", x.undo(), 1);
        due("17", x.undo(), 0);
        due("17 no hedge", x.is(4), 0);
        due("17 first cow", x.of(0, 0), 0);
        due("17 its way", x.of(0, 1), 1);
        due("17 X", x.is(1), 331);
        due("17 none", x.undo(), -1);
        due("17 gates stay", x.about(7), 4);
        due("17 hands stay", x.about(0), 1);
        due("17 cows stay", x.about(1), 2);
        x.hour(60);
        due("17 30", x.about(4), 30);
        for (int i = 29; i >= 0; i--) {
            due("17", x.undo(), i);
        }
        due("17 HOUR", x.is(0), 30);
        due("17 none", x.undo(), -1);
    }

    /** Promises 18 to 22. */
    private static void whatIs() {
        ThumbHedges x = new ThumbHedges();
        due("18 none", x.of(0, 0), -100);
        x.cow(6, 3);
        due("18 cell", x.of(0, 0), 6);
        due("18 way", x.of(0, 1), 3);
        due("18 goes without", x.of(0, 2), 1);
        due("18 others", x.of(0, 3), -100);
        due("18 others", x.of(0, -1), -100);
        due("18 others", x.of(1, 0), -100);
        due("18 others", x.of(-1, 0), -100);
        x.plant(5);
        x.plant(21);
        due("19 around", x.cell(6, 0), 2);
        due("19 around", x.cell(7, 0), 1);
        due("19 ways", x.cell(6, 1), 4 | 8);
        due("19 ways at the rim", x.cell(24, 1), 1 | 8);
        due("19 gate", x.cell(4, 2), 0);
        x.gate(4, true);
        due("19 gate", x.cell(4, 2), 1);
        due("19 can be come to", x.cell(6, 3), 25);
        x.plant(4);
        x.plant(26);
        due("19 alone", x.cell(6, 3), 1);
        due("19 the others", x.cell(7, 3), 24);
        for (int wrong : new int[] {-1, 25, 32, MIN, MAX}) {
            due("19 others", x.cell(wrong, 0), -1);
            due("20 others", x.hedge(wrong == 25 ? 40 : wrong == 32 ? 64 : wrong, 0), -1);
            due("21 others", x.between(wrong, 0), -1);
            due("21 others", x.between(0, wrong), -1);
            due("22 others", x.is(wrong), -2);
            due("51 others", x.about(wrong), -2);
        }
        due("19 others", x.cell(0, 4), -1);
        due("19 others", x.cell(0, -1), -1);
        due("20 there", x.hedge(5, 0), 1);
        due("20 not there", x.hedge(6, 0), 0);
        due("20 others", x.hedge(5, 4), -1);
        due("20 others", x.hedge(5, -1), -1);
        due("20 frosts without", x.hedge(6, 3), 3);
        for (int hedge = 0; hedge < 40; hedge++) {
            int a = hedge < 20 ? hedge / 4 * 5 + hedge % 4 : hedge - 20;
            int b = hedge < 20 ? a + 1 : a + 5;
            due("20 first of " + hedge, x.hedge(hedge, 1), a);
            due("20 second of " + hedge, x.hedge(hedge, 2), b);
            due("21 between " + a + ", " + b, x.between(a, b), hedge);
            due("21 between " + b + ", " + a, x.between(b, a), hedge);
        }
        due("21 itself", x.between(3, 3), -1);
        due("21 round the rim", x.between(4, 5), -1);
        due("21 too far", x.between(0, 10), -1);
        due("22 many", x.is(4), 4);
        due("22 east", x.is(2), 1 << 4 | 1 << 5);
        due("22 south", x.is(3), 1 << 1 | 1 << 6);
        due("22 others", x.is(5), -2);
        due("51 others", x.about(8), -2);
    }

    /** What a law says of HEDGE 13 (CELL 16) on a land with HEDGES 13, 12 and 36 at HOUR 2. */
    private static void frostsDue(String sum, int want) {
        ThumbHedges x = new ThumbHedges();
        x.hour(2);
        x.plant(13);
        x.plant(12);
        x.plant(36);
        due("7 frosts " + sum, Check.text(x, "frosts " + sum + ";"), 0);
        x.by(0);
        due("20 frosts " + sum, x.hedge(13, 3), want);
    }

    /** What a law says of COW 1, at CELL 16 with WAY 2, on the same land. */
    private static void goesDue(String sum, int want) {
        ThumbHedges x = new ThumbHedges();
        x.hour(2);
        x.plant(13);
        x.plant(12);
        x.plant(36);
        x.cow(0, 0);
        x.cow(16, 2);
        due("7 goes " + sum, Check.text(x, "goes " + sum + ";"), 0);
        x.by(0);
        due("18 goes " + sum, x.of(1, 2), want);
    }

    private static void laws() {
        frostsDue("number-10", 3);
        frostsDue("cell-10", 6);
        frostsDue("hour", 2);
        frostsDue("around", 3);
        frostsDue("all+1", 4);
        frostsDue("11", 10);
        frostsDue("-1", 0);
        frostsDue("number", 10);
        frostsDue("hedge number", 1);
        frostsDue("hedge(number+1)", 0);
        goesDue("who", 1);
        goesDue("cell", 16);
        goesDue("way", 2);
        goesDue("hour*10+around", 23);
        goesDue("all", 3);
        goesDue("100", 99);
        goesDue("-100", -99);
        goesDue("10-3-2", 5);
        goesDue("2+3*4", 14);
        goesDue("(2+3)*4", 20);
        goesDue("100/7/2", 7);
        goesDue("7*3/2", 10);
        goesDue("-7/2", -3);
        goesDue("7/-2", -3);
        goesDue("7/0", 0);
        goesDue("5-7/0*3", 5);
        goesDue("9999*9999/9999", 99);
        goesDue("9999*9999/(9999*9999)", 1);
        goesDue("9999*101-9999*100-50", 50);
        goesDue("9999*9999-9999*99-9999-20", 80);
        goesDue("-9999*9999+9999*99+9999+20", -80);
        goesDue("0-9999*9999-5+9999*99+9999+20", -80);
        goesDue("9999*9999+9999*9999-9999*99-9999-20", 80);
        goesDue("far 0 of 24", 8);
        goesDue("far 24 of 0", 8);
        goesDue("far 4 of 5", 5);
        goesDue("far 7 of 7", 0);
        goesDue("far 25 of 0", 0);
        goesDue("far 0 of 25", 0);
        goesDue("far-1of 5", 0);
        goesDue("far 0 of 3*2", 6);
        goesDue("far 0 of 1 + far 0 of 10", 3);
        goesDue("far far 0 of 24 of 24", 4);
        goesDue("hedge 13+hedge 12+hedge 36+hedge 35", 3);
        goesDue("hedge 40+hedge-1+hedge(32+45)", 0);
        goesDue("hedge hedge 40", 0);
        goesDue("hedge 13*7", 7);
        goesDue("--3", 3);
        goesDue("-3*2", -6);
        goesDue("2*-3", -6);
        choices();
    }

    private static void choices() {
        String[] signs = {"<", "<=", ">", ">=", "=", "#"};
        for (int i = 0; i < 6; i++) {
            for (int a = 1; a <= 3; a++) {
                boolean is = i == 0 ? a < 2 : i == 1 ? a <= 2 : i == 2 ? a > 2 : i == 3 ? a >= 2 : i == 4 ? a == 2 : a != 2;
                goesDue("if " + a + signs[i] + "2 then 5 else 6 end", is ? 5 : 6);
                goesDue("if not " + a + signs[i] + "2 then 5 else 6 end", is ? 6 : 5);
            }
        }
        goesDue("if 1=1 or 1=2 and 1=2 then 5 else 6 end", 5);
        goesDue("if 1=2 and 1=2 or 1=1 then 5 else 6 end", 5);
        goesDue("if 1=2 and 1=1 or 1=2 then 5 else 6 end", 6);
        goesDue("if 1=1 and 1=1 then 5 else 6 end", 5);
        goesDue("if 1=2 or 1=2 then 5 else 6 end", 6);
        goesDue("if not 1=2 and 1=2 then 5 else 6 end", 6);
        goesDue("if not not 1=1 then 5 else 6 end", 5);
        goesDue("if 1+1=2 then 5 else 6 end*2", 10);
        goesDue("3-if 1=2 then 5 else if 1=1 then 7 else 8 end end-1", -5);
        goesDue("if if 1=1 then 2 else 3 end=2 then if 1=2 then 4 else 5 end else 6 end", 5);
    }

    /** Promises 24 to 29. */
    private static void ways() {
        ThumbHedges x = new ThumbHedges();
        due("24 no cow", x.foretold(1, 0), -2);
        x.cow(6, 0);
        x.gate(1, true);
        due("24 n 0", x.foretold(0, 0), -2);
        due("24 n 61", x.foretold(61, 0), -2);
        due("24 cow 1", x.foretold(1, 1), -2);
        due("24 cow -1", x.foretold(1, -1), -2);
        int[] ring = {7, 12, 11, 6};
        for (int n = 1; n <= 60; n++) {
            due("24 foretold", x.foretold(n, 0), ring[(n - 1) % 4]);
        }
        due("24 changes nothing", x.of(0, 0), 6);
        due("24 changes nothing", x.is(0), 0);
        due("24 changes nothing", x.is(1), 331);
        due("24 changes nothing", x.about(4), 0);
        x.plant(5);
        due("24 home", x.foretold(1, 0), -1);
        due("24 not home now", x.of(0, 0), 6);
        x.go(0, 0);
        due("24 is home", x.foretold(3, 0), -1);
        milesAndCuts();
    }

    private static void milesAndCuts() {
        ThumbHedges x = new ThumbHedges();
        for (int wrong : new int[] {-1, 25, 32, MIN, MAX}) {
            due("25 others", x.miles(wrong, 0), -1);
            due("25 others", x.miles(0, wrong), -1);
            due("26 others", x.way(wrong, 0, 0), -2);
            due("26 others", x.way(0, wrong, 0), -2);
            due("27 others", x.cuts(wrong, 0), -1);
            due("27 others", x.cuts(0, wrong), -1);
            due("28 others", x.farthest(wrong), -1);
            due("34 others", x.paths(wrong, 0), -1);
            due("34 others", x.paths(0, wrong), -1);
        }
        due("26 i -1", x.way(0, 24, -1), -2);
        due("26 i high", x.way(0, 24, MAX), -2);
        due("25 itself", x.miles(7, 7), 0);
        due("27 itself", x.cuts(7, 7), 0);
        due("26 lowest first: north", x.way(24, 0, 0), 0);
        due("26 lowest first: west", x.way(24, 0, 4), 3);
        // CELL 12 is walled in but for the way from the west, by CELL 11.
        x.plant(27);
        x.plant(10);
        x.plant(32);
        due("25 round", x.miles(7, 12), 3);
        due("26 west", x.way(7, 12, 0), 3);
        due("26 south", x.way(7, 12, 1), 2);
        due("26 east", x.way(7, 12, 2), 1);
        due("26 no more", x.way(7, 12, 3), -2);
        due("27 none to cut", x.cuts(7, 12), 0);
        due("28 farthest", x.farthest(12), 4);
        due("29 wide", x.wide(), 8);
        x.plant(9);
        due("25 no way", x.miles(7, 12), -1);
        due("26 no way", x.way(7, 12, 0), -2);
        due("27 one", x.cuts(7, 12), 1);
        due("27 one", x.cuts(12, 24), 1);
        due("28 itself", x.farthest(12), 12);
        x.plant(0);
        x.plant(20);
        due("27 two", x.cuts(0, 12), 2);
        due("27 two", x.cuts(12, 0), 2);
        x.hand(FULL, FULL);
        x.press(0, 0);
        due("27 all", x.cuts(0, 24), 8);
        due("29 none", x.wide(), 0);
        due("28 itself", x.farthest(24), 24);
        due("34 none", x.paths(0, 1), 0);
        due("34 itself", x.paths(3, 3), 1);
    }

    /** Promises 30 to 34, 47; hands as snakes. */
    private static void shapes() {
        ThumbHedges x = new ThumbHedges();
        due("34 open land", x.paths(0, 24), 8512);
        due("34 open land", x.paths(24, 0), 8512);
        due("34 beside", x.paths(0, 1), 4112);
        // A snake: rows are ways from west to east, joined at the east, the west, the east, the west.
        x.hand(0, 15 | 30 << 5 | 15 << 10 | 30 << 15);
        x.hand(FULL, FULL);
        x.press(0, 0);
        due("29 the snake", x.wide(), 24);
        due("25 the snake", x.miles(0, 24), 24);
        due("26 the snake", x.way(0, 24, 4), 2);
        due("28 the snake", x.farthest(12), 0);
        due("30 one", x.regions(false), 1);
        due("30 all", x.regions(true), 25);
        due("31 none", x.rings(), 0);
        due("32 ends", x.ends(), 1 | 1 << 24);
        due("33 all but the ends", x.necks(), 0x1FFFFFF & ~(1 | 1 << 24));
        due("34 one", x.paths(0, 24), 1);
        due("47 most around", x.thickest(), 6);
        x.press(1, 0);
        due("30 many", x.regions(false), 25);
        due("30 one each", x.regions(true), 1);
        due("31 none", x.rings(), 0);
        due("32 none", x.ends(), 0);
        due("33 none", x.necks(), 0);
        due("47 four around", x.thickest(), 6);
        x.cut(0);
        due("32 a pair", x.ends(), 3);
        due("30 24", x.regions(false), 24);
        due("30 a pair", x.regions(true), 2);
        x.cut(20);
        x.cut(21);
        due("31 none", x.rings(), 0);
        due("33 both", x.necks(), 3);
        x.cut(4);
        due("31 a ring", x.rings(), 1);
        due("33 no neck", x.necks(), 0);
        due("34 both ways round", x.paths(0, 6), 2);
        due("47 lowest", x.thickest(), 7);
        askedAtOnce();
    }

    /** Each right behind a change, so that what was asked ahead can't help. */
    private static void askedAtOnce() {
        ThumbHedges x = new ThumbHedges();
        due("47 none", x.thickest(), 0);
        x.plant(0);
        due("47 two alike", x.thickest(), 0);
        due("33 one", x.necks(), 32);
        x.undo();
        due("33 none", x.necks(), 0);
        x.plant(20);
        due("29 wide", x.wide(), 8);
        x.plant(0);
        x.plant(19);
        x.plant(39);
        due("29 without two corners", x.wide(), 8);
        due("31 rings", x.rings(), 40 - 4 - 25 + 3);
        x.plant(1);
        due("47 two around", x.thickest(), 0);
        x.plant(21);
        due("47 three around", x.thickest(), 1);
        due("28 farthest", x.farthest(24), 24);
        due("30 regions", x.regions(false), 4);
        x.cut(1);
        due("28 farthest", x.farthest(1), 20);
        x.cut(20);
        due("25 miles", x.miles(0, 5), 1);
        x.plant(20);
        due("27 cuts", x.cuts(0, 5), 1);
        x.cut(20);
        due("26 way", x.way(0, 5, 0), 2);
        x.plant(20);
        due("34 paths", x.paths(0, 5), 0);
        x.cut(20);
        due("19 region", x.cell(0, 3), 24);
    }

    /** Promise 35. */
    private static void walks() {
        ThumbHedges x = new ThumbHedges();
        due("35 no cow", x.walk(0, false), -1);
        due("35 no cow", x.walk(0, true), -1);
        x.cow(12, 0);
        x.cow(0, 0);
        x.cow(4, 3);
        due("35 others", x.walk(3, false), -1);
        due("35 others", x.walk(-1, true), -1);
        due("35 never", x.walk(0, false), -1);
        due("35 ring", x.walk(0, true), 4);
        due("35 small ring at the rim", x.walk(1, true), 4);
        x.gate(24, true);
        // From CELL 4 with WAY 3: right is the rim, so on to 3, 2, 1, 0? Each time right is north, the rim; then west.
        due("35 along the rim", x.walk(2, false), 12);
        due("35 comes home", x.walk(2, true), -1);
        x.go(2, 2);
        x.gate(9, true);
        due("35 on a gate, not home: it goes first", x.walk(2, false) > 0, true);
        x.go(2, 0);
        x.go(2, 2);
        due("35 is home", x.walk(2, false), 0);
        due("35 is home", x.walk(2, true), -1);
        x.plant(7);
        x.plant(8);
        x.plant(10);
        x.plant(11);
        x.hand(FULL, FULL);
        x.press(0, 0);
        due("35 can't go", x.walk(0, true), 0);
        due("35 never", x.walk(0, false), -1);
        x.cut(10);
        due("35 to and fro", x.walk(0, true), 2);
        x.cut(11);
        x.gate(14, true);
        due("35 home through the row", x.walk(0, false), 2);
        due("35 law has no say", Check.text(x, "goes 0;"), 0);
        x.by(0);
        due("35 always going", x.walk(0, false), 2);
        ringsOfWalks();
    }

    /** On the snake the ring is there and back, whatever WAY a COW has at first. */
    private static void ringsOfWalks() {
        ThumbHedges x = new ThumbHedges();
        x.hand(0, 15 | 30 << 5 | 15 << 10 | 30 << 15);
        x.press(0, 0);
        for (int way = 0; way < 4; way++) {
            x.cow(12, way);
            due("35 there and back", x.walk(way, true), 48);
            due("35 never", x.walk(way, false), -1);
        }
        x.gate(0, true);
        due("35 north of 12 is barred: right is east", x.walk(0, false), 14 + 24 - 2);
        due("35 way 1", x.walk(1, false), 36);
        due("35 way 2: right is west", x.walk(2, false), 12);
        due("35 way 3", x.walk(3, false), 12);
    }

    /** Promises 36, 37. */
    private static void homeAndGates() {
        ThumbHedges x = new ThumbHedges();
        due("36 none", x.home(0), 0);
        x.cow(0, 0);
        x.cow(12, 0);
        x.cow(24, 0);
        due("36 no gates", x.home(99), 0);
        due("36 -1", x.home(-1), -1);
        due("36 100", x.home(100), -1);
        x.gate(24, true);
        due("36 at a gate", x.home(0), 4);
        due("36 3", x.home(3), 4);
        due("36 4", x.home(4), 6);
        due("36 7", x.home(7), 6);
        due("36 8", x.home(8), 7);
        x.gate(1, true);
        x.go(0, 1);
        due("36 home", x.home(0), 5);
        x.gate(24, false);
        x.gate(1, false);
        due("36 home without gates", x.home(99), 1);
        due("37 -1", x.gates(-1, false), -1);
        due("37 25", x.gates(25, false), -1);
        due("37 1", x.gates(1, true), -1);
        due("37 1", x.gates(1, false), -1);
        due("37 8", x.gates(8, false), 1);
        due("37 7", x.gates(7, false), 2);
        due("37 6", x.gates(6, true), 1);
        due("37 6", x.gates(6, false), 4);
        due("37 5", x.gates(5, true), 2);
        x.hand(FULL, FULL);
        x.press(0, 0);
        due("37 walled", x.gates(24, true), -1);
        // Four columns that end at the rim, the fifth joined to the fourth: just one set of four, by the lowest.
        x.hand(0x77777 & FULL, 0);
        x.press(1, 0);
        due("37 columns", x.gates(24, true), 4);
        due("37 the lowest", x.gates(24, false), 1 | 2 | 4 | 8);
        x.hand(FULL, 0);
        x.press(2, 0);
        due("37 five columns", x.gates(24, true), -1);
        due("37 five columns", x.gates(24, false), -1);
    }

    /** Promises 38 to 43. */
    private static void hands() {
        ThumbHedges x = new ThumbHedges();
        due("42 none", x.kinds(), 0);
        due("39 none", x.unlike(0, false), -1);
        due("43 none", x.selves(0), -1);
        // HEDGE 0 alone, turned: by quarters to the right, then those of its mirror image.
        x.hand(1, 0);
        int[] east = {1, 0, 1 << 19, 0, 1 << 3, 0, 1 << 16, 0};
        int[] south = {0, 1 << 4, 0, 1 << 15, 0, 1 << 19, 0, 1};
        for (int turn = 0; turn < 8; turn++) {
            due("38 east " + turn, x.turned(0, turn, false), east[turn]);
            due("38 south " + turn, x.turned(0, turn, true), south[turn]);
        }
        for (int wrong : new int[] {-1, 8, MIN, MAX}) {
            due("38 others", x.turned(0, wrong, false), -1);
            due("38 others", x.turned(wrong, 0, true), -1);
            due("39 others", x.unlike(wrong, true), -1);
            due("41 others", x.twins(0, wrong), -1);
            due("41 others", x.twins(wrong, 0), -1);
            due("43 others", x.selves(wrong), -1);
        }
        x.hand(1 << 19, 0);
        x.hand(1, 0);
        x.hand(FULL, FULL);
        due("41 turn", x.twins(0, 1), 2);
        due("41 turn", x.twins(1, 0), 2);
        due("41 alike", x.twins(0, 2), 0);
        due("41 itself", x.twins(0, 0), -1);
        due("41 none", x.twins(0, 3), -1);
        due("42 kinds", x.kinds(), 2);
        due("43 one", x.selves(0), 1);
        due("43 all", x.selves(3), 8);
        x.plant(19);
        x.plant(5);
        due("39 how many", x.unlike(0, false), 1);
        due("39 which", x.unlike(0, true), 2);
        due("39 which", x.unlike(1, true), 0);
        due("39 full", x.unlike(3, false), 38);
        due("39 full", x.unlike(3, true), 0);
        due("40 -1", x.owner(-1), -1);
        due("40 41", x.owner(41), -1);
        due("40 0", x.owner(0), -1);
        due("40 1, the lowest", x.owner(1), 0);
        x.press(3, 0);
        due("40 full", x.owner(0), 3);
        ThumbHedges y = new ThumbHedges();
        y.hand(FULL, FULL);
        due("40 39", y.owner(39), -1);
        due("40 40", y.owner(40), 0);
        y.hand(FULL, FULL - 1);
        due("40 the least unlike", y.owner(40), 1);
        y.hand(1 << 7, 0);
        y.press(2, 1);
        due("39 the first turn", y.unlike(2, true), 1);
        selves();
    }

    private static void selves() {
        ThumbHedges x = new ThumbHedges();
        x.hand(1 | 1 << 3, 0);
        x.hand(1 | 1 << 19, 0);
        x.hand(1 | 1 << 19, 1 << 4 | 1 << 15);
        due("43 a mirror", x.selves(0), 2);
        due("43 a half turn", x.selves(1), 2);
        due("43 quarters", x.selves(2), 4);
        due("42 kinds", x.kinds(), 3);
        x.hand(1 << 16 | 1 << 19, 0);
        due("42 kinds", x.kinds(), 3);
        due("41 a mirror image", x.twins(0, 3), 2);
        due("40 none pressed", x.owner(1), -1);
        due("40 none pressed", x.owner(2), 0);
    }

    /** Promise 44. */
    private static void looks() {
        ThumbHedges x = new ThumbHedges();
        due("44 no hands", x.look(40), -1);
        x.hand(1 | 1 << 5, 0);
        due("44 -1", x.look(-1), -1);
        due("44 41", x.look(41), -1);
        due("44 none such", x.look(1), -1);
        x.press(0, 3);
        due("44 one", x.look(0), -1);
        x.hand(1 | 1 << 5, 0);
        due("44 two", x.look(0), 0);
        x.back();
        x.hand(1 | 1 << 5, 0);
        due("44 all", x.look(40), 0);
        x.hand(0, 0);
        x.press(1, 0);
        due("44 eight alike: the lowest", x.look(0), 0);
        // 8 empty ones, 8 ways of the first hand: HEDGE 0 is in one of these (5 in one, too), and so is the lowest.
        due("44 sixteen", x.look(2), 0);
        ThumbHedges y = new ThumbHedges();
        y.hand(0, 1 << 7);
        y.hand(0, 1 << 7 | 1 << 17);
        y.hand(0, 1 << 12);
        y.press(0, 0);
        due("44 none but the first", y.look(0), lookDue(y, 0));
        due("44 and the second", y.look(1), lookDue(y, 1));
        due("44 and the third", y.look(2), lookDue(y, 2));
        due("44 all", y.look(40), lookDue(y, 40));
    }

    /** The same by what the other calls tell. */
    private static int lookDue(ThumbHedges x, int err) {
        int best = -1;
        int fewest = 99;
        long land = x.is(2) | (long) x.is(3) << 20;
        long[] turned = new long[8 * x.about(0)];
        for (int i = 0; i < turned.length; i++) {
            turned[i] = x.turned(i / 8, i % 8, false) | (long) x.turned(i / 8, i % 8, true) << 20;
        }
        for (int hedge = 0; hedge < 40; hedge++) {
            int[] left = new int[2];
            for (long one : turned) {
                if (Long.bitCount(one ^ land) <= err) {
                    left[(int) (one >> hedge & 1)]++;
                }
            }
            if (left[0] + left[1] < 2) {
                return -1;
            }
            if (Math.max(left[0], left[1]) < fewest) {
                fewest = Math.max(left[0], left[1]);
                best = hedge;
            }
        }
        return best;
    }

    /** Promises 45, 46. */
    private static void whoseLaw() {
        ThumbHedges x = new ThumbHedges();
        due("46 no texts", x.whose(), 0);
        Check.text(x, "frosts 3;");
        Check.text(x, "goes 1;");
        Check.text(x, "frosts all+1;");
        Check.text(x, "frosts number;");
        due("46 none said: all", x.whose(), 15);
        due("45 frosts 11", x.said(0, 11), -2);
        due("45 frosts -1", x.said(0, -1), -2);
        due("45 hedge 40", x.said(40, 3), -2);
        due("45 hedge -2", x.said(-2, 3), -2);
        due("45 none so far", x.about(5), 0);
        due("45 one", x.said(3, 3), 1);
        due("46 all but the third", x.whose(), 1 | 2 | 8);
        x.plant(0);
        x.plant(1);
        due("46 as now", x.whose(), 15);
        due("45 two", x.said(4, 3), 2);
        due("46 not the fourth", x.whose(), 7);
        for (int i = 3; i <= 8; i++) {
            due("45 more", x.said(i, 3), i);
        }
        due("45 a ninth", x.said(4, 3), -2);
        due("45 eight", x.about(5), 8);
        due("45 none any more", x.said(-1, 0), 0);
        due("45 none", x.about(5), 0);
        due("46 all", x.whose(), 15);
        due("45 frosts 0", x.said(0, 0), 1);
        due("46 the fourth", x.whose(), 8);
        x.said(-1, 0);
        due("45 frosts 10", x.said(39, 10), 1);
        due("46 the fourth", x.whose(), 8);
        due("45 no matter what is said of none", x.said(-1, 77), 0);
    }

    /** Promises 49, 50, 51. */
    private static void images() {
        ThumbHedges x = new ThumbHedges();
        x.hand(1, 2);
        x.cow(12, 1);
        x.gate(3, true);
        Check.text(x, "frosts 10;goes 1;");
        x.by(0);
        x.said(3, 4);
        x.plant(11);
        x.hour(1);
        due("49 image", x.image(), 1);
        due("49 no step", x.about(4), 2);
        x.hand(4, 8);
        x.cow(3, 2);
        x.gate(3, false);
        Check.text(x, "plant 0;");
        x.by(1);
        x.said(-1, 0);
        x.said(5, 5);
        x.said(6, 6);
        x.played(1);
        x.hour(40);
        x.undo();
        Check.text(x, "plant;");
        x.feed(0, 0, 0, 0, 0);
        due("50 back", x.back(), 1);
        int[] about = {1, 1, 1, 0, 2, 1, 20, 8};
        for (int i = 0; i < 8; i++) {
            due("51 about(" + i + ")", x.about(i), about[i]);
        }
        due("50 the fault stays", x.fault(0), 1);
        due("50 its place stays", x.fault(1), 5);
        due("50 X", x.is(1), 20802);
        due("50 cow", x.of(0, 0), 17);
        due("50 book", x.book(-1, 0), 1);
        due("50 what was said", x.whose(), 0);
        due("50 steps too", x.undo(), 1);
        due("50 the hedge is there", x.is(2), 1 << 11);
        due("50 the cow", x.of(0, 0), 12);
        due("50 it stays", x.back(), 1);
        due("50 it stays", x.about(4), 2);
        due("50 hand", x.turned(0, 0, true), 2);
        due("50 a new second hand", x.hand(0, 0), 1);
        due("50 a new second cow", x.cow(7, 3), 1);
        due("50 it isn't home", x.of(1, 0), 7);
        due("50 a new second text", Check.text(x, "cut 39;"), 1);
        due("50 it is that one", x.played(1), 0);
        imagesOfHome();
        imagesOfSteps();
    }

    private static void imagesOfHome() {
        ThumbHedges x = new ThumbHedges();
        Check.text(x, "frosts number-3;");
        x.cow(1, 0);
        x.cow(12, 0);
        x.gate(0, true);
        x.go(0, 3);
        x.said(7, 4);
        x.image();
        x.undo();
        x.said(-1, 0);
        x.said(8, 5);
        x.gate(7, true);
        x.gate(13, true);
        due("50 not home", x.of(0, 0), 1);
        due("50 back", x.back(), 0);
        due("50 home again", x.of(0, 0), -1);
        due("50 what was said is again", x.whose(), 1);
        x.cow(4, 1);
        x.cow(3, 1);
        x.gate(9, true);
        x.go(2, 2);
        due("50 the third is home", x.of(2, 0), -1);
        x.back();
        due("50 a new third", x.cow(4, 1), 2);
        due("50 isn't home", x.of(2, 0), 4);
        due("17 undo", x.undo(), 0);
        due("17 the first isn't home", x.of(0, 0), 1);
        due("17 the third is as told", x.of(2, 0), 4);
    }

    /** All 30 STEPS of an image can be taken back, though others came since. */
    private static void imagesOfSteps() {
        ThumbHedges x = new ThumbHedges();
        for (int i = 0; i < 37; i++) {
            x.plant(i);
        }
        x.image();
        for (int i = 0; i < 37; i++) {
            x.cut(i);
        }
        due("50 back", x.back(), 0);
        due("50 all there", x.is(4), 37);
        for (int i = 29; i >= 0; i--) {
            due("17 undo", x.undo(), i);
            due("17 one less", x.is(4), 7 + i);
        }
        due("17 none", x.undo(), -1);
        due("17 the first seven stay", x.is(2), 127);
    }
}
