/** Boundaries of promises 7 and 8: TOKENS, CLAUSES, and each FAULT with its place. */
final class EdgesFaults {
    /** TEXTS that are whole, each TOKEN with a blank behind it; all CLAUSES, signs and words are in them. */
    private static final String[] WHOLE = {
        "frosts number + cell - around * all / hour ; ",
        "goes who + way - hour * cell / around + all ; ",
        "goes if not 1 < 2 and 3 <= 4 or 5 > 6 and 7 >= 8 or 9 = 10 and 1 # 2 then - 1 else far - 1 of ( 2 ) end ; ",
        "frosts hedge ( number + 1 ) * far cell of 12 - hedge 39 ; ",
        "cow 24 way 3 ; gate 24 ; plant 39 ; cut 39 ; ",
        "press 3 turn 7 ; go 3 by 4 ; hour 60 ; hour 1 ; "};
    /** What can be open around a ONE, from its first TOKEN to the ONE, and what closes it. */
    private static final String[] OPENS = {"(", "-", "hedge ", "far ", "far 1 of ", "if ", "if 1<", "if 1<2 then ",
        "if 1<2 then 3 else "};
    private static final String[] CLOSES = {")", "", "", " of 1", "", "<2 then 3 else 4 end", " then 3 else 4 end",
        " else 4 end", " end"};

    private EdgesFaults() {
    }

    private static void whole(String... texts) {
        for (String text : texts) {
            Check.fault(text, 0, -1);
        }
    }

    private static void fault(int what, int place, String... texts) {
        for (String text : texts) {
            Check.fault(text, what, place);
        }
    }

    /** "Blanks (32, 10) aside", and no others. */
    static void promise08Blanks() {
        whole(" goes 1;", "\ngoes\n\n1 \n;\n", "goes 1;  ", "goes(1);", "goes1;", "goes 1;cut 1;");
        for (int sign = 0; sign < 256; sign++) {
            String text = "goes " + (char) sign + "1;";
            if (sign == 32 || sign == 10 || sign == '-' || sign >= '0' && sign <= '9') {
                Check.fault(text, 0, -1);
            } else {
                Check.fault(text, 1, sign == '(' ? 7 : 5);
            }
        }
    }

    /** "Letters a .. z, A .. Z one behind the other (one TOKEN)": @ [ ` { are none, and none is left out. */
    static void promise08Letters() {
        fault(1, 0, "goesa 1;", "goesz 1;", "goesA 1;", "goesZ 1;", "agoes 1;", "Zgoes 1;");
        fault(1, 4, "goes@1;", "goes[1;", "goes`1;", "goes{1;", "goes_1;");
        fault(1, 0, "GOES 1;", "goeS 1;", "goe 1;", "frost 1;", "g", "x", "Z", "goesgoes 1;");
        fault(1, 3, "go es 1;", "go\nes 1;");
        fault(1, 5, "goes hourcell;", "goes celll;", "goes cel;", "goes Hour;", "goes iff 1<2;", "goes end;");
        fault(1, 19, "goes if 1<2 then 3 els", "goes if 1<2 then 3 elsE 4 end;");
        whole("goes hour;", "goes if 1<2then 3else 4end;", "goes far 1of 2;", "goes far(1)of(2);");
    }

    /** "Digits likewise": what lies beside them, / and :, are none. */
    static void promise08Digits() {
        whole("goes 0;", "goes 9;", "goes 1234;", "goes 5678;", "goes 00000000009999;", "cut 0039;");
        fault(1, 6, "goes 1:;", "goes 1.2;", "goes 1,2;", "goes 1x;", "goes 1hour;", "cut 39:;");
        fault(1, 7, "goes 1 2;", "goes 1/;", "goes 1\n2;");
        fault(2, 5, "goes 12345;", "goes 10000;");
        fault(1, 10, "goes 1234 5;");
    }

    /** "The longest": <= and >= are one TOKEN, < = are two. */
    static void promise08TheLongest() {
        whole("goes if 1<=2 then 3 else 4 end;", "goes if 1>=2 then 3 else 4 end;", "goes if 1<-2 then 3 else 4 end;");
        whole("goes if 1=-2 then 3 else 4 end;", "goes if 1#2 then 3 else 4 end;", "goes if 1>(2) then 3 else 4 end;");
        fault(1, 11, "goes if 1< =2 then 3 else 4 end;", "goes if 1> =2 then 3 else 4 end;");
        fault(1, 10, "goes if 1=<2 then 3 else 4 end;", "goes if 1=>2 then 3 else 4 end;");
        fault(1, 10, "goes if 1<>2 then 3 else 4 end;", "goes if 1><2 then 3 else 4 end;");
        fault(1, 10, "goes if 1==2 then 3 else 4 end;", "goes if 1##2 then 3 else 4 end;");
        fault(1, 10, "goes if 1#=2 then 3 else 4 end;", "goes if 1<<=2 then 3 else 4 end;");
        fault(1, 11, "goes if 1<==2 then 3 else 4 end;", "goes if 1>=>=2 then 3 else 4 end;");
        fault(1, 10, "goes if 1<", "goes if 1>", "goes if 1=");
        fault(1, 11, "goes if 1<=", "goes if 1>=");
    }

    /** "Of the end at the length": wherever a TEXT ends that isn't whole yet, with blanks behind it, too. */
    static void promise08Fault1OfTheEnd() {
        for (String text : WHOLE) {
            whole(text, text.trim());
            for (int at = text.indexOf(' '); at > 0; at = text.indexOf(' ', at + 1)) {
                boolean isWhole = text.charAt(at - 1) == ';';
                Check.fault(text.substring(0, at), isWhole ? 0 : 1, isWhole ? -1 : at);
                Check.fault(text.substring(0, at) + " \n ", isWhole ? 0 : 1, isWhole ? -1 : at + 3);
            }
        }
    }

    /** "It can't stand there, or is none", at the TOKEN's first byte: at each TOKEN of a TEXT. */
    static void promise08Fault1AtEachToken() {
        for (String text : WHOLE) {
            for (int at = 0; at < text.length(); at = text.indexOf(' ', at) + 1) {
                String rest = text.substring(text.indexOf(' ', at));
                for (String wrong : new String[] {"?", "zz", "_", "\t", "turn", "by", "of", "\u00e9"}) {
                    boolean same = text.startsWith(wrong + " ", at);
                    Check.fault(text.substring(0, at) + wrong + rest, same ? 0 : 1, same ? -1 : at);
                }
            }
        }
    }

    /** A NUMBER above 9999, and a NAME of the other law, instead of each TOKEN: where none can stand it is 1. */
    static void promise08Fault2And5AtEachToken() {
        for (String text : WHOLE) {
            boolean law = text.startsWith("goes") || text.startsWith("frosts");
            String foreign = text.startsWith("goes") ? "number" : "who";
            String before = ";";
            for (int at = 0; at < text.length(); at = text.indexOf(' ', at) + 1) {
                String token = text.substring(at, text.indexOf(' ', at));
                String rest = text.substring(text.indexOf(' ', at));
                boolean number = Character.isDigit(token.charAt(0));
                boolean one = law && (number || beginsOne(before, token));
                fault(number || one ? 2 : 1, at, text.substring(0, at) + "10000" + rest);
                fault(one ? 5 : 1, at, text.substring(0, at) + foreign + rest);
                before = token;
            }
        }
    }

    /** A ONE, or an ASK that could begin with one. */
    private static boolean beginsOne(String before, String token) {
        boolean minus = token.equals("-") && before.matches("then|else|far|of|[-+*/(]");
        return minus || token.matches("hour|cell|around|all|number|who|way|far|hedge|if|not|[(]");
    }

    static void promise08Fault1Clauses() {
        fault(1, 0, ";", "1", "(", "way 1;", "cell 1;", "around;", "number 1;", "turn 1;", "by 1;", "if", "end", "not");
        fault(1, 7, "goes 1;;", "goes 1;1", "goes 1;)", "goes 1;way", "goes 1;end;");
        fault(1, 5, "goes ;", "goes )1;", "goes +1;", "goes *1;", "goes cow;", "goes goes;", "goes turn;");
        fault(1, 5, "goes not 1<2;", "goes then;", "goes of;", "goes by;", "goes and;", "goes or;", "goes else;");
        fault(1, 4, "cow -1 way 1;", "cow (1) way 1;", "cow hour way 1;", "cut -1;", "cut ;", "cut cut 1;");
        fault(1, 6, "cow 1 turn 1;", "cow 1 by 1;", "cow 1 1;", "cut 1 2;");
        fault(1, 5, "cow 1;", "go 1 way 2;", "go 1 turn 2;");
        fault(1, 8, "press 1 by 2;", "press 1 way 2;", "hour 10 1;", "gate 10 1;", "goes (1 2);");
    }

    /** A question stands in an if alone, and a SUM has no question in it. */
    static void promise08Fault1Asks() {
        fault(1, 6, "goes 1<2;", "goes 1=2;", "goes 1#2;");
        fault(1, 10, "goes if (1<2) then 3 else 4 end;");
        fault(1, 11, "goes if 1<2<3 then 3 else 4 end;", "goes if 1<2=3 then 3 else 4 end;");
        fault(1, 10, "goes if 1 then 3 else 4 end;", "goes if 1 and 2<3 then 3 else 4 end;");
        fault(1, 10, "goes if 1 ; 2 then 3 else 4 end;", "goes if 1 frosts 2 then 3 else 4 end;");
        fault(1, 10, "goes if 1 ) 2 then 3 else 4 end;", "goes if 1 2 then 3 else 4 end;");
        fault(1, 12, "goes if 1<2 else 3 then 4 end;", "goes if 1<2 end;", "goes if 1<2 not 1<2 then 3 else 4 end;");
        fault(1, 19, "goes if 1<2 then 3 end;", "goes if 1<2 then 3 then 4 end;");
        fault(1, 26, "goes if 1<2 then 3 else 4 ;");
        fault(1, 16, "goes if 1<2 and and 1<2 then 3 else 4 end;", "goes if 1<2 and or 1<2 then 3 else 4 end;");
    }

    /** "2 a NUMBER that isn't one of those told": both ends of each. */
    static void promise08Fault2() {
        whole("cow 0 way 0;", "cow 24 way 3;", "gate 0;", "gate 24;", "plant 0;", "plant 39;", "cut 0;", "cut 39;");
        whole("press 0 turn 0;", "press 3 turn 7;", "go 0 by 0;", "go 3 by 4;", "hour 1;", "hour 60;", "goes 0;", "goes 9999;");
        fault(2, 4, "cow 25 way 0;", "cow 9999 way 0;", "cow 10000 way 0;", "cut 40;", "cut 10000;", "cut 64;");
        fault(2, 10, "cow 0 way 4;", "cow 0 way 10000;");
        fault(2, 5, "gate 25;", "gate 32;", "gate 10000;", "hour 0;", "hour 61;", "hour 00;", "hour 10000;");
        fault(2, 6, "plant 40;", "plant 9999;", "press 4 turn 0;", "press 10000 turn 0;");
        fault(2, 13, "press 0 turn 8;", "press 3 turn 10000;");
        fault(2, 3, "go 4 by 0;", "go 10000 by 0;");
        fault(2, 8, "go 0 by 5;", "go 3 by 10000;");
        fault(2, 5, "goes 10000;", "goes 99999;", "goes 100000000000000000000;", "goes 4294967296;", "goes 4294967297;");
        fault(2, 5, "goes 2147483648;", "goes 18446744073709551616;", "goes 65536;", "goes 010000;");
        fault(2, 7, "goes 1+10000;", "frosts 10000;", "goes 1*99999;");
        fault(2, 9, "goes far 10000 of 1;");
        fault(2, 14, "goes far 1 of 10000;");
        fault(2, 10, "goes if 1<10000 then 2 else 3 end;");
        whole("goes far 25 of 9999;", "goes hedge 40;", "goes hedge 9999;");
    }

    /** "3 the 9th .. (at it)": eight of each kind, then a ninth of each kind. */
    static void promise08Fault3TheNinth() {
        for (int outer = 0; outer < OPENS.length; outer++) {
            String opens = "goes " + OPENS[outer].repeat(7);
            String closes = CLOSES[outer].repeat(7);
            for (int inner = 0; inner < OPENS.length; inner++) {
                String eighth = opens + OPENS[inner];
                whole(eighth + "1" + CLOSES[inner] + closes + ";");
                for (int last = 0; last < OPENS.length; last++) {
                    fault(3, eighth.length(), eighth + OPENS[last] + "1" + CLOSES[last] + CLOSES[inner] + closes + ";");
                    fault(3, eighth.length(), eighth + OPENS[last].split("[ 1]")[0]);
                }
            }
        }
    }

    /** not is one of them, and around its ASK alone. */
    static void promise08Fault3Not() {
        String rest = " then 3 else 4 end;";
        whole("goes if " + "not ".repeat(7) + "1<2" + rest);
        fault(3, 36, "goes if " + "not ".repeat(8) + "1<2" + rest);
        fault(3, 36, "goes if " + "not ".repeat(7) + "(1)<2" + rest);
        fault(3, 38, "goes if " + "not ".repeat(7) + "1<(2)" + rest);
        whole("goes if " + "not ".repeat(7) + "1<2 and (1)<2 or " + "not ".repeat(7) + "1<2" + rest);
        whole("goes if " + "not ".repeat(7) + "1<2 then (((((((3))))))) else -------4 end;");
        fault(3, 24, "goes if 1<2 then -------(3) else 4 end;");
        fault(3, 28, "goes if not 1<2 then -------(3) else 4 end;");
        whole("goes ((((((if not 1<2 then 3 else 4 end))))));");
        fault(3, 15, "goes (((((((if not 1<2 then 3 else 4 end)))))));");
    }

    /** Behind its end nothing of it is open: "open around one another", "far till its second is whole". */
    static void promise08Fault3ClosedAgain() {
        String seven = "goes (((((((";
        String closes = ")))))));";
        whole("goes ((((((((1))))))))-((((((((1))))))));", "goes --------1---------1;", "goes 1" + "-1".repeat(20) + ";");
        whole(seven + "far 1 of 1*(1)" + closes, seven + "hedge 1*(1)" + closes, seven + "-1*(1)" + closes);
        whole(seven + "if 1<2 then 3 else 4 end*(1)" + closes, seven + "(1)*(1)-(1)" + closes);
        fault(3, 16, seven + "far (1) of 1" + closes);
        fault(3, 21, seven + "far 1 of (1)" + closes);
        fault(3, 17, seven + "hedge(1)" + closes);
        fault(3, 13, seven + "-(1)" + closes, seven + "((1))" + closes, seven + "--1" + closes);
        fault(3, 31, seven + "if 1<2 then 3 else (4) end" + closes);
        whole("goes far " + "-".repeat(7) + "1 of " + "-".repeat(7) + "1;");
        fault(3, 16, "goes far " + "-".repeat(8) + "1 of 1;");
        fault(3, 21, "goes far 1 of " + "-".repeat(8) + "1;");
    }

    /** "4 frosts, goes for the second time (at it)." */
    static void promise08Fault4() {
        whole("frosts 1;goes 1;", "goes 1;frosts 1;", "goes 1;cut 1;cut 1;frosts 1;");
        fault(4, 9, "frosts 1;frosts 2;", "frosts 1;frosts", "frosts 1;frosts ?", "frosts 1;frosts who;");
        fault(4, 7, "goes 1;goes 2;", "goes 1;goes", "goes 1;goes number;");
        fault(4, 16, "frosts 1;goes 1;frosts 1;", "frosts 1;goes 1;goes 1;", "goes 1;frosts 1;goes 1;");
        fault(1, 9, "frosts 1;frost 2;");
        fault(1, 7, "goes 1 goes 2;");
    }

    /** Another TEXT has laws of its own: they are no second time. */
    static void promise08Fault4OfOneText() {
        ThumbHedges x = new ThumbHedges();
        Check.due("8 first", Check.text(x, "frosts 1;goes 1;"), 0);
        Check.due("8 second", Check.text(x, "frosts 1;goes 1;"), 1);
        Check.due("8 a FAULT", Check.text(x, "frosts 1;goes 1;?"), -1);
        Check.due("8 third", Check.text(x, "frosts 1;goes 1;"), 2);
    }

    /** "5 a NAME that isn't of that CLAUSE (at it)." */
    static void promise08Fault5() {
        whole("frosts number;", "goes who;", "goes way;", "frosts hour;", "goes hour;", "frosts cell;", "goes cell;");
        whole("frosts around;", "goes around;", "frosts all;", "goes all;");
        fault(5, 7, "frosts who;", "frosts way;", "frosts who", "goes 1+number;", "goes 1*number;", "frosts way ?");
        fault(5, 5, "goes number;");
        fault(5, 6, "goes -number;", "goes (number);");
        fault(5, 19, "goes 1;frosts hour*who;");
        fault(5, 21, "goes who;frosts hour-way;");
        fault(1, 9, "frosts 1 who;");
        fault(1, 4, "cut number;", "cow number way 1;", "cut who;");
    }

    /** "6 the 25th CLAUSE (at its first TOKEN)": of each kind. */
    static void promise08Fault6() {
        String all = "cut 0;".repeat(24);
        whole(all, all + "\n ", "cut 0;".repeat(23) + "goes 1;", "frosts 1;goes 1;" + "cut 0;".repeat(22));
        for (String clause : new String[] {"frosts 1;", "goes 1;", "cow 0 way 0;", "gate 0;", "plant 0;", "cut 0;",
            "press 0 turn 0;", "go 0 by 0;", "hour 1;"}) {
            fault(6, 144, all + clause, all + clause + clause, all + clause.split(" ")[0], all + clause.replace(' ', '?'));
            fault(6, 146, all + " \n" + clause);
            whole("cut 0;".repeat(23) + clause);
        }
    }

    /** "Of one the least": which of two is told. */
    static void promise08TheLeast() {
        String all = "cut 0;".repeat(24);
        fault(1, 144, all + "?", all + ";", all + "10000", all + "way 1;", all + "Cut 0;");
        fault(4, 145, "goes 1;" + "cut 0;".repeat(23) + "goes 1;");
        fault(4, 147, "frosts 1;" + "cut 0;".repeat(23) + "frosts 1;");
        fault(6, 145, "goes 1;" + "cut 0;".repeat(23) + "frosts 1;");
        fault(1, 7, "goes 1 10000;", "goes 1;10000");
        fault(1, 6, "cow 1 10000 1;", "goes 1(((((((((1;");
        fault(1, 15, "goes ((((((((1 (", "goes ((((((((1 if", "goes ((((((((1 far");
        fault(1, 13, "goes (((((((()", "goes ((((((((;", "goes ((((((((not 1<2");
        fault(5, 13, "goes ((((((((number");
        fault(2, 13, "goes ((((((((10000");
    }

    /** "The first as TOKENS are come to": what lies behind it is not looked at. */
    static void promise08TheFirst() {
        fault(2, 5, "goes 10000?", "goes 10000+number;", "goes 10000;goes 1;");
        fault(5, 5, "goes number+10000;", "goes number?");
        fault(1, 5, "goes ?10000;", "goes ? number;");
        fault(3, 13, "goes ((((((((-number;", "goes ((((((((-10000;", "goes ((((((((-?");
        fault(4, 7, "goes 1;goes 10000;");
        fault(2, 4, "cut 40;cut ?;", "cut 40 40;");
    }
}
