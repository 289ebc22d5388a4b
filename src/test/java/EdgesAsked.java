import java.util.LinkedHashMap;
import java.util.Map;
import java.util.function.Supplier;
import java.util.function.ToLongFunction;

/** "All that follows changes nothing but what is told": each question, on lands of all kinds. */
final class EdgesAsked {
    private EdgesAsked() {
    }

    private static Map<String, ToLongFunction<ThumbHedges>> questions() {
        Map<String, ToLongFunction<ThumbHedges>> all = new LinkedHashMap<>();
        all.put("8 fault(1)", x -> x.fault(1));
        all.put("18 of(0, 2)", x -> x.of(0, 2));
        all.put("19 cell(7, 3)", x -> x.cell(7, 3));
        all.put("20 hedge(8, 3)", x -> x.hedge(8, 3));
        all.put("21 between(3, 8)", x -> x.between(3, 8));
        all.put("22 is(1)", x -> x.is(1));
        all.put("23 book(0, 2)", x -> x.book(0, 2));
        all.put("24 foretold(60, 0)", x -> x.foretold(60, 0));
        all.put("25 miles(0, 24)", x -> x.miles(0, 24));
        all.put("26 way(0, 24, 3)", x -> x.way(0, 24, 3));
        all.put("27 cuts(0, 24)", x -> x.cuts(0, 24));
        all.put("28 farthest(3)", x -> x.farthest(3));
        all.put("29 wide()", x -> x.wide());
        all.put("30 regions(true)", x -> x.regions(true));
        all.put("31 rings()", x -> x.rings());
        all.put("32 ends()", x -> x.ends());
        all.put("33 necks()", x -> x.necks());
        all.put("34 paths(0, 18)", x -> x.paths(0, 18));
        all.put("35 walk(0, true)", x -> x.walk(0, true));
        all.put("36 home(9)", x -> x.home(9));
        all.put("37 gates(5, false)", x -> x.gates(5, false));
        all.put("38 turned(0, 5, true)", x -> x.turned(0, 5, true));
        all.put("39 unlike(0, true)", x -> x.unlike(0, true));
        all.put("40 owner(20)", x -> x.owner(20));
        all.put("41 twins(0, 1)", x -> x.twins(0, 1));
        all.put("42 kinds()", x -> x.kinds());
        all.put("43 selves(0)", x -> x.selves(0));
        all.put("44 look(20)", x -> x.look(20));
        all.put("46 whose()", x -> x.whose());
        all.put("47 thickest()", x -> x.thickest());
        all.put("48 ledger(0)", x -> x.ledger(0));
        all.put("51 about(6)", x -> x.about(6));
        return all;
    }

    private static void changesNothing(Supplier<ThumbHedges> made) {
        for (Map.Entry<String, ToLongFunction<ThumbHedges>> one : questions().entrySet()) {
            long due = one.getValue().applyAsLong(made.get());
            Edge.refused(one.getKey() + " changes nothing", made, one.getValue(), due);
            ThumbHedges x = made.get();
            one.getValue().applyAsLong(x);
            Check.due(one.getKey() + " asked twice", one.getValue().applyAsLong(x), due);
        }
    }

    static void promise24AskingOfBareLand() {
        changesNothing(Lands::bare);
    }

    static void promise24AskingOfAnOrdinaryLand() {
        changesNothing(Lands::ordinary);
    }

    static void promise24AskingOfAFullLand() {
        changesNothing(Lands::full);
    }

    static void promise24AskingAtTheLastHour() {
        changesNothing(Lands::last);
    }
}
