import java.util.Random;

/** Runs of drawn calls: each answer of ThumbHedges is held against the Model's. The seeds are told, so runs are the same. */
public final class ModelTest {
    private static final int[] ODD = {-2, -1, 25, 40, 41, 100, Integer.MIN_VALUE, Integer.MAX_VALUE};
    private final Random random;
    private final ThumbHedges x = new ThumbHedges();
    private final Model m = new Model();
    private final String run;
    private final int seed;

    private ModelTest(int seed) {
        this.seed = seed;
        random = new Random(seed);
        run = "run " + seed + ": ";
    }

    public static void main(String[] args) {
        int runs = args.length > 0 ? Integer.parseInt(args[0]) : 400;
        for (int seed = 0; seed < runs; seed++) {
            new ModelTest(seed).play();
        }
        Check.end("ModelTest");
    }

    /** Brings some runs so near to HOUR 9999 that they come to it. */
    private void growOld() {
        for (int i = 0; i < 166; i++) {
            due("hour(60)", x.hour(60), m.hour(60));
        }
        int n = 1 + upTo(38);
        due("hour(" + n + ")", x.hour(n), m.hour(n));
    }

    private void play() {
        if (seed % 20 == 19) {
            growOld();
        }
        for (int i = 0; i < 250; i++) {
            if (random.nextInt(3) > 0) {
                tellOrDo();
            } else {
                ask(random.nextInt(35));
            }
            if (i % 25 == 0) {
                compareAll();
            }
        }
        compareAll();
        for (int i = 0; i < 35; i++) {
            ask(i);
        }
    }

    private int upTo(int most) {
        return random.nextInt(most + 1);
    }

    /** One of 0 .. most, now and then another. */
    private int some(int most) {
        int draw = random.nextInt(40);
        if (draw == 0) {
            return ODD[random.nextInt(ODD.length)];
        }
        return draw == 1 ? most + 1 : upTo(most);
    }

    private void due(String call, long got, long want) {
        Check.due(run + call, got, want);
    }

    private void due(String call, boolean got, boolean want) {
        Check.due(run + call, got, want);
    }

    private int someHedges() {
        int kind = random.nextInt(6);
        int all = (1 << 20) - 1;
        int drawn = random.nextInt(1 << 20);
        if (kind == 0) {
            return drawn & random.nextInt(1 << 20) & random.nextInt(1 << 20);
        }
        return kind == 1 ? 0 : kind == 2 ? all : kind == 3 ? drawn : drawn & random.nextInt(1 << 20);
    }

    private void tellHand() {
        int east = some(20) > 20 ? 1 << 20 : someHedges();
        int south = someHedges();
        if (random.nextInt(4) == 0 && x.about(0) > 0) {
            int turn = upTo(7);
            int hand = random.nextInt(x.about(0));
            east = x.turned(hand, turn, false);
            south = x.turned(hand, turn, true);
        }
        due("hand(" + east + ", " + south + ")", x.hand(east, south), m.hand(east, south));
    }

    private void tellText() {
        String signs = new Texts(random).text();
        x.end(0);
        m.end(0);
        for (int i = 0; i < signs.length(); i += 20) {
            int[] words = new int[5];
            for (int k = 0; k < 20; k++) {
                int sign = i + k < signs.length() ? signs.charAt(i + k) : 7;
                words[k / 4] = words[k / 4] << 8 | sign;
            }
            due("feed", x.feed(words[0], words[1], words[2], words[3], words[4]),
                    m.feed(words[0], words[1], words[2], words[3], words[4]));
        }
        int n = Math.min(300, signs.length());
        due("end(" + n + ")", x.end(n), m.end(n));
        due("text() of '" + signs + "'", x.text(), m.text());
        due("fault(0) of '" + signs + "'", x.fault(0), m.fault(0));
        due("fault(1) of '" + signs + "'", x.fault(1), m.fault(1));
        due("about(6)", x.about(6), m.about(6));
    }

    private void tellOrDo() {
        int a = some(39);
        int cow = some(4);
        int way = some(3);
        int cell = some(24);
        boolean yes = random.nextInt(3) > 0;
        switch (random.nextInt(26)) {
            case 0:
                tellHand();
                break;
            case 1:
                due("cow(" + cell + ", " + way + ")", x.cow(cell, way), m.cow(cell, way));
                break;
            case 2:
                due("gate(" + cell + ", " + yes + ")", x.gate(cell, yes), m.gate(cell, yes));
                break;
            case 3:
            case 4:
                tellText();
                break;
            case 5:
            case 6:
                int text = some(3) - (random.nextInt(6) == 0 ? 1 : 0);
                due("by(" + text + ")", x.by(text), m.by(text));
                break;
            case 7:
            case 8:
            case 9:
                due("plant(" + a + ")", x.plant(a), m.plant(a));
                break;
            case 10:
            case 11:
                due("cut(" + a + ")", x.cut(a), m.cut(a));
                break;
            case 12:
            case 13:
                int turn = some(7);
                due("press(" + way + ", " + turn + ")", x.press(way, turn), m.press(way, turn));
                break;
            case 14:
            case 15:
            case 16:
                due("go(" + cow + ", " + way + ")", x.go(cow, way), m.go(cow, way));
                break;
            default:
                doMore(a, way);
                break;
        }
    }

    private void doMore(int hedge, int text) {
        switch (random.nextInt(10)) {
            case 0:
            case 1:
                int n = random.nextInt(3) == 0 ? some(60) : some(5);
                due("hour(" + n + ")", x.hour(n), m.hour(n));
                break;
            case 2:
            case 3:
                due("played(" + text + ")", x.played(text), m.played(text));
                break;
            case 4:
                int by = some(9999);
                int draws = some(40);
                due("years(" + by + ", " + draws + ")", x.years(by, draws), m.years(by, draws));
                break;
            case 5:
            case 6:
                for (int i = random.nextInt(5) == 0 ? 31 : upTo(3); i >= 0; i--) {
                    due("undo()", x.undo(), m.undo());
                }
                break;
            case 7:
                int frosts = random.nextBoolean() && x.hedge(hedge, 3) >= 0 ? x.hedge(hedge, 3) : some(10);
                due("said(" + hedge + ", " + frosts + ")", x.said(hedge, frosts), m.said(hedge, frosts));
                if (random.nextInt(8) == 0) {
                    due("said(-1, 0)", x.said(-1, 0), m.said(-1, 0));
                }
                break;
            case 8:
                due("image()", x.image(), m.image());
                break;
            default:
                if (random.nextBoolean()) {
                    due("back()", x.back(), m.back());
                }
                break;
        }
    }

    private void compareAll() {
        for (int i = -1; i <= 8; i++) {
            due("about(" + i + ")", x.about(i), m.about(i));
            due("is(" + i + ")", x.is(i), m.is(i));
            due("fault(" + i + ")", x.fault(i), m.fault(i));
            due("ledger(" + i + ")", x.ledger(i), m.ledger(i));
        }
        for (int i = -2; i <= 31; i++) {
            for (int what = -1; what <= 3; what++) {
                due("book(" + i + ", " + what + ")", x.book(i, what), m.book(i, what));
            }
        }
        for (int i = -1; i <= 5; i++) {
            for (int what = -1; what <= 3; what++) {
                due("of(" + i + ", " + what + ")", x.of(i, what), m.of(i, what));
            }
        }
        for (int i = -1; i <= 40; i++) {
            for (int what = -1; what <= 4; what++) {
                due("hedge(" + i + ", " + what + ")", x.hedge(i, what), m.hedge(i, what));
                due("cell(" + i + ", " + what + ")", x.cell(i, what), m.cell(i, what));
            }
        }
    }

    private void ask(int which) {
        int a = some(24);
        int b = some(24);
        int i = some(8);
        boolean yes = random.nextBoolean();
        int hand = some(3);
        int err = random.nextBoolean() ? some(40) : some(12);
        int cow = some(4);
        switch (which) {
            case 0:
                int n = some(60);
                due("foretold(" + n + ", " + cow + ")", x.foretold(n, cow), m.foretold(n, cow));
                break;
            case 1:
                due("miles(" + a + ", " + b + ")", x.miles(a, b), m.miles(a, b));
                break;
            case 2:
                due("way(" + a + ", " + b + ", " + i + ")", x.way(a, b, i), m.way(a, b, i));
                break;
            case 3:
                due("cuts(" + a + ", " + b + ")", x.cuts(a, b), m.cuts(a, b));
                break;
            case 4:
                due("farthest(" + a + ")", x.farthest(a), m.farthest(a));
                break;
            case 5:
                due("wide()", x.wide(), m.wide());
                break;
            case 6:
                due("regions(" + yes + ")", x.regions(yes), m.regions(yes));
                break;
            case 7:
                due("rings()", x.rings(), m.rings());
                break;
            case 8:
                due("ends()", x.ends(), m.ends());
                break;
            case 9:
                due("necks()", x.necks(), m.necks());
                break;
            case 10:
                due("paths(" + a + ", " + b + ")", x.paths(a, b), m.paths(a, b));
                break;
            case 11:
                due("walk(" + cow + ", " + yes + ")", x.walk(cow, yes), m.walk(cow, yes));
                break;
            case 12:
                due("home(" + i + ")", x.home(i), m.home(i));
                break;
            case 13:
                due("gates(" + a + ", " + yes + ")", x.gates(a, yes), m.gates(a, yes));
                break;
            case 14:
                due("turned(" + hand + ", " + i + ")", x.turned(hand, i, yes), m.turned(hand, i, yes));
                break;
            default:
                askOfHands(which, hand, cow, err, yes);
                break;
        }
    }

    private void askOfHands(int which, int hand, int other, int err, boolean yes) {
        switch (which) {
            case 15:
                due("unlike(" + hand + ", " + yes + ")", x.unlike(hand, yes), m.unlike(hand, yes));
                break;
            case 16:
                due("owner(" + err + ")", x.owner(err), m.owner(err));
                break;
            case 17:
                due("twins(" + hand + ", " + other + ")", x.twins(hand, other), m.twins(hand, other));
                break;
            case 18:
                due("kinds()", x.kinds(), m.kinds());
                break;
            case 19:
                due("selves(" + hand + ")", x.selves(hand), m.selves(hand));
                break;
            case 20:
            case 21:
                due("look(" + err + ")", x.look(err), m.look(err));
                break;
            case 22:
                due("whose()", x.whose(), m.whose());
                break;
            case 23:
                due("thickest()", x.thickest(), m.thickest());
                break;
            case 24:
                int a = some(24);
                int b = random.nextBoolean() ? a + new int[] {-5, 1, 5, -1}[upTo(3)] : some(24);
                due("between(" + a + ", " + b + ")", x.between(a, b), m.between(a, b));
                break;
            default:
                for (int cow = 0; cow < 5; cow++) {
                    int n = some(60);
                    due("foretold(" + n + ", " + cow + ")", x.foretold(n, cow), m.foretold(n, cow));
                    due("walk(" + cow + ", " + yes + ")", x.walk(cow, yes), m.walk(cow, yes));
                }
                break;
        }
    }
}
