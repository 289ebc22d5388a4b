/**
 * A land of 25 cells with hedges between them, hands that can be pressed on it, cows that go round by the hedge,
 * and gates at the rim. ../shared/DOC.md says what every call answers; the words used here are its words.
 */
public final class ThumbHedges {
    public static final int NONE = -1;

    /** What many calls answer for others, where NONE is an answer of its own. */
    private static final int OTHERS = -2;
    /** What is told of a COW that is home, or is none: below all that goes can say. */
    private static final int NO_GOES = -100;

    private static final int SIDE = 5;
    private static final int CELLS = 25;
    private static final int ALL_CELLS = (1 << CELLS) - 1;
    /** All CELLS but the nine within: rows and columns 1 .. 3. */
    private static final int RIM = ALL_CELLS & ~((7 << 6) | (7 << 11) | (7 << 16));
    /** CELLS that have one to their east: columns 0 .. 3. */
    private static final int NOT_EASTMOST = 15 | 15 << 5 | 15 << 10 | 15 << 15 | 15 << 20;
    private static final int WAYS = 4;
    /** How far to turn to the right for the WAYS that a COW tries, one behind the other. */
    private static final int[] TRIED = {1, 0, 3, 2};
    private static final int HEDGES = 40;
    /** How many HEDGES lie to the east; as many lie to the south. */
    private static final int EASTS = 20;
    private static final int HALF = (1 << EASTS) - 1;
    private static final int HANDS = 4;
    private static final int TURNS = 8;
    private static final int COWS = 5;
    private static final int TEXTS = 4;
    private static final int STEPS = 30;
    private static final int LINES = 30;
    private static final int SAIDS = 8;
    private static final int TAPE = 300;
    private static final int CLAUSES = 24;
    private static final int NESTED = 8;
    private static final int LAST_HOUR = 9999;
    private static final int MOST_HOURS = 60;
    private static final int MOST_NUMBER = 9999;
    private static final int MOST_VALUE = 1000000;
    private static final int MOST_FROSTS = 10;
    private static final int MOST_SEED = 9999;
    private static final int MOST_DRAWS = 40;
    private static final int MOST_GATES = 4;
    private static final int FIRST_X = 331;

    /** What a line of the BOOK tells of. */
    private static final int FROZEN = 0;
    private static final int CAME_HOME = 1;

    /** TOKENS. The signs stand in the order of SIGNS, the words in the order of WORDS. */
    private static final int THE_END = 0;
    private static final int NO_TOKEN = 1;
    private static final int NUMBER = 2;
    private static final int LESS = 3;
    private static final int MORE = 4;
    private static final int EQUAL = 5;
    private static final int OTHERWISE = 6;
    private static final int PLUS = 7;
    private static final int MINUS = 8;
    private static final int TIMES = 9;
    private static final int DIVIDED = 10;
    private static final int LEFT = 11;
    private static final int RIGHT = 12;
    private static final int SEMICOLON = 13;
    private static final int AT_MOST = 14;
    private static final int AT_LEAST = 15;
    private static final int FROSTS = 16;
    private static final int GOES = 17;
    private static final int COW = 18;
    private static final int GATE = 19;
    private static final int PLANT = 20;
    private static final int CUT = 21;
    private static final int PRESS = 22;
    private static final int GO = 23;
    private static final int HOUR = 24;
    private static final int CELL = 25;
    private static final int AROUND = 26;
    private static final int ALL = 27;
    private static final int NUMBER_NAME = 28;
    private static final int WHO = 29;
    private static final int WAY = 30;
    private static final int TURN = 31;
    private static final int BY = 32;
    private static final int FAR = 33;
    private static final int OF = 34;
    private static final int HEDGE = 35;
    private static final int IF = 36;
    private static final int THEN = 37;
    private static final int ELSE = 38;
    private static final int END = 39;
    private static final int OR = 40;
    private static final int AND = 41;
    private static final int NOT = 42;

    /** What a law's code does beside what TOKENS say. */
    private static final int NAME = 43;
    private static final int NEGATE = 44;
    private static final int UNLESS = 45;
    private static final int SKIP = 46;
    /** An entry of the code is what to do, and this many times the number that goes with it. */
    private static final int CODE = 64;

    private static final String SIGNS = "<>=#+-*/();";
    /** Each word has a blank behind it, the last one too. */
    private static final String WORDS =
            "frosts goes cow gate plant cut press go hour cell around all number who way turn by far of hedge if then else end or and not ";

    private static final int FAULT_PLACE = 1;
    private static final int FAULT_NUMBER = 2;
    private static final int FAULT_NESTED = 3;
    private static final int FAULT_AGAIN = 4;
    private static final int FAULT_NAME = 5;
    private static final int FAULT_CLAUSES = 6;

    private final Farm now = new Farm();
    private final Farm kept = new Farm();
    private final Hands hands = new Hands();
    /** HANDS and TEXTS only ever come behind those that THE IMAGE has, so it keeps just how many there are. */
    private final Text[] texts = new Text[TEXTS];
    private final Text lawless = new Text();
    private final Reader reader = new Reader();
    private final Judge judge = new Judge();
    private final Maze maze = new Maze();
    /** The land on which HOURS are tried out. */
    private final Land trial = new Land();

    public ThumbHedges() {
        for (int i = 0; i < TEXTS; i++) {
            texts[i] = new Text();
        }
    }

    // ---- what is told ----

    public int hand(int east, int south) {
        if (east < 0 || east > HALF || south < 0 || south > HALF || now.hands >= HANDS) {
            return NONE;
        }
        hands.keep(now.hands, east | (long) south << EASTS);
        now.hands++;
        return now.hands - 1;
    }

    public int cow(int cell, int way) {
        if (!Plan.isCell(cell) || !Plan.isWay(way)) {
            return NONE;
        }
        return now.land.tellCow(cell, way);
    }

    public boolean gate(int cell, boolean is) {
        if (!Plan.isCell(cell) || (RIM >> cell & 1) == 0) {
            return false;
        }
        now.gates = is ? now.gates | 1 << cell : now.gates & ~(1 << cell);
        return true;
    }

    public int feed(int a, int b, int c, int d, int e) {
        if (!reader.hasRoomFor(20)) {
            return NONE;
        }
        reader.addFour(a);
        reader.addFour(b);
        reader.addFour(c);
        reader.addFour(d);
        reader.addFour(e);
        return reader.length;
    }

    public int end(int n) {
        if (n < 0 || n > reader.length) {
            return NONE;
        }
        reader.length = n;
        return n;
    }

    public int text() {
        if (now.texts >= TEXTS) {
            return NONE;
        }
        boolean whole = reader.reads();
        reader.length = 0;
        if (!whole) {
            return NONE;
        }
        texts[now.texts].copyFrom(reader.draft);
        now.texts++;
        return now.texts - 1;
    }

    public int fault(int what) {
        if (!reader.hasRead) {
            return NONE;
        }
        if (what == 0) {
            return reader.fault;
        }
        return what == 1 ? reader.faultPlace : NONE;
    }

    public boolean by(int text) {
        if (text != NONE && !isText(text)) {
            return false;
        }
        now.rule = text;
        return true;
    }

    // ---- what is done ----

    public boolean plant(int hedge) {
        if (!Plan.isHedge(hedge) || now.land.hasHedge(hedge)) {
            return false;
        }
        now.markStep();
        now.land.addHedge(hedge);
        return true;
    }

    public boolean cut(int hedge) {
        if (!now.land.hasHedge(hedge)) {
            return false;
        }
        now.markStep();
        now.land.removeHedge(hedge);
        return true;
    }

    public boolean press(int hand, int turn) {
        if (!isHand(hand) || !Hands.isTurn(turn)) {
            return false;
        }
        now.markStep();
        now.land.hedges = hands.pattern(hand, turn);
        return true;
    }

    public int go(int cow, int way) {
        if (!now.land.canGo(cow, way)) {
            return NONE;
        }
        now.markStep();
        now.land.comesHome(cow, way, now.gates);
        return now.land.at[cow];
    }

    public int hour(int n) {
        if (n < 1 || n > MOST_HOURS || now.land.hour + n > LAST_HOUR) {
            return NONE;
        }
        int before = Integer.bitCount(now.land.home);
        passHours(n);
        return Integer.bitCount(now.land.home) - before;
    }

    public int played(int text) {
        if (!isText(text)) {
            return OTHERS;
        }
        Text script = texts[text];
        for (int i = 0; i < script.clauses; i++) {
            int kind = script.kinds[i];
            int first = script.firsts[i];
            if (!(kind == HOUR ? passHours(first) : does(kind, first, script.seconds[i]))) {
                return i;
            }
        }
        return NONE;
    }

    public int years(int seed, int n) {
        if (seed < 0 || seed > MOST_SEED || n < 1 || n > MOST_DRAWS) {
            return NONE;
        }
        now.markStep();
        now.land.x = seed * 2 + FIRST_X;
        for (int i = 0; i < n; i++) {
            befall(now.land.draw());
        }
        return now.land.hour;
    }

    public int undo() {
        return now.takeBack() ? now.steps : NONE;
    }

    // ---- what is ----

    public int of(int cow, int what) {
        Land land = now.land;
        if (!land.isCow(cow)) {
            return NO_GOES;
        }
        boolean home = land.isHome(cow);
        switch (what) {
            case 0:
                return home ? NONE : land.at[cow];
            case 1:
                return land.way[cow];
            case 2:
                return home ? NO_GOES : judge.goesOf(ruling(), land, cow);
            default:
                return NO_GOES;
        }
    }

    public int cell(int cell, int what) {
        if (!Plan.isCell(cell)) {
            return NONE;
        }
        switch (what) {
            case 0:
                return now.land.around(cell);
            case 1:
                return now.land.openWays(cell);
            case 2:
                return now.gates >> cell & 1;
            case 3:
                return Integer.bitCount(mazeNow().regionOf(cell));
            default:
                return NONE;
        }
    }

    public int hedge(int hedge, int what) {
        if (!Plan.isHedge(hedge)) {
            return NONE;
        }
        switch (what) {
            case 0:
                return now.land.hasHedge(hedge) ? 1 : 0;
            case 1:
                return Plan.firstCell(hedge);
            case 2:
                return Plan.secondCell(hedge);
            case 3:
                return judge.frostsOf(ruling(), now.land, hedge);
            default:
                return NONE;
        }
    }

    public int between(int a, int b) {
        if (!Plan.isCell(a) || !Plan.isCell(b)) {
            return NONE;
        }
        for (int way = 0; way < WAYS; way++) {
            if (Plan.cellBeyond(a, way) == b) {
                return Plan.hedgeBy(a, way);
            }
        }
        return NONE;
    }

    public int is(int what) {
        Land land = now.land;
        switch (what) {
            case 0:
                return land.hour;
            case 1:
                return land.x;
            case 2:
                return Hands.eastOf(land.hedges);
            case 3:
                return Hands.southOf(land.hedges);
            case 4:
                return Long.bitCount(land.hedges);
            default:
                return OTHERS;
        }
    }

    public int book(int i, int what) {
        Land land = now.land;
        if (i == NONE) {
            return land.lines;
        }
        if (i < 0 || i >= land.lines) {
            return OTHERS;
        }
        switch (what) {
            case 0:
                return land.lineHour(i);
            case 1:
                return land.lineKind(i);
            case 2:
                return land.lineWhich(i);
            default:
                return OTHERS;
        }
    }

    // ---- what comes, ways, and what the land is like ----

    public int foretold(int n, int cow) {
        if (n < 1 || n > MOST_HOURS || !now.land.isCow(cow)) {
            return OTHERS;
        }
        trial.copyFrom(now.land);
        for (int i = 0; i < n && trial.hour < LAST_HOUR; i++) {
            passHour(trial);
        }
        return trial.isHome(cow) ? NONE : trial.at[cow];
    }

    public int miles(int a, int b) {
        if (!Plan.isCell(a) || !Plan.isCell(b)) {
            return NONE;
        }
        return mazeNow().milesTo(a, 1 << b);
    }

    public int way(int a, int b, int i) {
        if (!Plan.isCell(a) || !Plan.isCell(b) || i < 0) {
            return OTHERS;
        }
        int miles = mazeNow().milesTo(a, 1 << b);
        if (i >= miles) {
            return OTHERS;
        }
        int at = a;
        int step = OTHERS;
        for (int left = miles; left > miles - i - 1 && Plan.isCell(at); left--) {
            step = maze.wayNearer(at, 1 << b, left);
            at = Plan.cellBeyond(at, step);
        }
        return step;
    }

    public int cuts(int a, int b) {
        if (!Plan.isCell(a) || !Plan.isCell(b)) {
            return NONE;
        }
        return mazeNow().cutsTo(a, 1 << b);
    }

    public int farthest(int cell) {
        if (!Plan.isCell(cell)) {
            return NONE;
        }
        return mazeNow().farthestFrom(cell);
    }

    public int wide() {
        mazeNow();
        int most = 0;
        for (int cell = 0; cell < CELLS; cell++) {
            most = Math.max(most, maze.milesTo(cell, 1 << maze.farthestFrom(cell)));
        }
        return most;
    }

    public int regions(boolean most) {
        return most ? mazeNow().greatestRegion() : mazeNow().regionCount();
    }

    public int rings() {
        return HEDGES - Long.bitCount(now.land.hedges) - CELLS + mazeNow().regionCount();
    }

    public int ends() {
        int set = 0;
        for (int cell = 0; cell < CELLS; cell++) {
            if (Integer.bitCount(now.land.openWays(cell)) == 1) {
                set |= 1 << cell;
            }
        }
        return set;
    }

    public int necks() {
        mazeNow();
        int set = 0;
        for (int cell = 0; cell < CELLS; cell++) {
            if (maze.isNeck(cell)) {
                set |= 1 << cell;
            }
        }
        return set;
    }

    public long paths(int a, int b) {
        if (!Plan.isCell(a) || !Plan.isCell(b)) {
            return NONE;
        }
        return mazeNow().pathsTo(a, 1 << b);
    }

    public int walk(int cow, boolean ring) {
        Land land = now.land;
        if (!land.isCow(cow)) {
            return NONE;
        }
        if (land.isHome(cow)) {
            return ring ? NONE : 0;
        }
        int steps = land.stepsHome(cow, now.gates);
        if (steps != NONE || !ring) {
            return ring ? NONE : steps;
        }
        return land.ringOf(cow);
    }

    public int home(int n) {
        if (n < 0 || n > 99) {
            return NONE;
        }
        int near = mazeNow().within(now.gates, n);
        int set = 0;
        for (int cow = 0; cow < now.land.told; cow++) {
            if (now.land.isHome(cow) || (near >> now.land.at[cow] & 1) == 1) {
                set |= 1 << cow;
            }
        }
        return set;
    }

    public int gates(int n, boolean many) {
        if (n < 0 || n >= CELLS) {
            return NONE;
        }
        int set = mazeNow().fewestGates(n);
        return set == NONE || !many ? set : Integer.bitCount(set);
    }

    // ---- hands, laws and the book ----

    public int turned(int hand, int turn, boolean south) {
        if (!isHand(hand) || !Hands.isTurn(turn)) {
            return NONE;
        }
        long pattern = hands.pattern(hand, turn);
        return south ? Hands.southOf(pattern) : Hands.eastOf(pattern);
    }

    public int unlike(int hand, boolean turn) {
        if (!isHand(hand)) {
            return NONE;
        }
        int best = hands.likestTurn(hand, now.land.hedges);
        return turn ? best : hands.unlikeness(hand, best, now.land.hedges);
    }

    public int owner(int err) {
        if (err < 0 || err > HEDGES) {
            return NONE;
        }
        int best = NONE;
        int least = err + 1;
        for (int hand = 0; hand < now.hands; hand++) {
            int unlike = hands.unlikeness(hand, hands.likestTurn(hand, now.land.hedges), now.land.hedges);
            if (unlike < least) {
                least = unlike;
                best = hand;
            }
        }
        return best;
    }

    public int twins(int a, int b) {
        if (!isHand(a) || !isHand(b) || a == b) {
            return NONE;
        }
        return hands.turnInto(a, b);
    }

    public int kinds() {
        int count = 0;
        for (int hand = 0; hand < now.hands; hand++) {
            if (!hands.hasElderTwin(hand)) {
                count++;
            }
        }
        return count;
    }

    public int selves(int hand) {
        if (!isHand(hand)) {
            return NONE;
        }
        return hands.selfTurns(hand);
    }

    public int look(int err) {
        if (err < 0 || err > HEDGES) {
            return NONE;
        }
        return hands.partingHedge(now.hands, now.land.hedges, err);
    }

    public int said(int hedge, int frosts) {
        if (hedge == NONE) {
            now.saids = 0;
            return 0;
        }
        if (!Plan.isHedge(hedge) || frosts < 0 || frosts > MOST_FROSTS || now.saids >= SAIDS) {
            return OTHERS;
        }
        now.saidHedges[now.saids] = hedge;
        now.saidFrosts[now.saids] = frosts;
        now.saids++;
        return now.saids;
    }

    public int whose() {
        int set = 0;
        for (int i = 0; i < now.texts; i++) {
            if (saysAll(texts[i])) {
                set |= 1 << i;
            }
        }
        return set;
    }

    public int thickest() {
        int best = 0;
        for (int cell = 1; cell < CELLS; cell++) {
            if (now.land.around(cell) > now.land.around(best)) {
                best = cell;
            }
        }
        return best;
    }

    public int ledger(int what) {
        if (what != FROZEN && what != CAME_HOME) {
            return OTHERS;
        }
        int count = 0;
        for (int i = 0; i < now.land.lines; i++) {
            if (now.land.lineKind(i) == what) {
                count++;
            }
        }
        return count;
    }

    // ---- the image ----

    public int image() {
        kept.copyFrom(now);
        return now.land.hour;
    }

    public int back() {
        now.copyFrom(kept);
        return now.land.hour;
    }

    public int about(int what) {
        switch (what) {
            case 0:
                return now.hands;
            case 1:
                return now.land.told;
            case 2:
                return now.texts;
            case 3:
                return now.rule;
            case 4:
                return now.steps;
            case 5:
                return now.saids;
            case 6:
                return reader.length;
            case 7:
                return now.gates;
            default:
                return OTHERS;
        }
    }

    // ---- helpers of the calls ----

    private boolean isHand(int hand) {
        return hand >= 0 && hand < now.hands;
    }

    private boolean isText(int text) {
        return text >= 0 && text < now.texts;
    }

    /** THE TEXT; without one, a TEXT that has no laws, so that nobody asks for null. */
    private Text ruling() {
        return isText(now.rule) ? texts[now.rule] : lawless;
    }

    private Maze mazeNow() {
        maze.layOut(now.land.hedges);
        return maze;
    }

    /** Each HOUR is a STEP; true if all could pass. */
    private boolean passHours(int n) {
        for (int i = 0; i < n; i++) {
            if (now.land.hour >= LAST_HOUR) {
                return false;
            }
            now.markStep();
            passHour(now.land);
        }
        return true;
    }

    private void passHour(Land land) {
        Text rule = ruling();
        for (int cow = 0; cow < land.told; cow++) {
            if (!land.isHome(cow) && judge.goesOf(rule, land, cow) > 0) {
                land.wander(cow, now.gates);
            }
        }
        int hedge = land.draw() % HEDGES;
        if (land.hasHedge(hedge) && land.draw() % 10 < judge.frostsOf(rule, land, hedge)) {
            land.removeHedge(hedge);
            land.write(FROZEN, hedge);
        }
        land.hour++;
    }

    /** One CLAUSE of a script but hour, as by hand; laws are no deeds. */
    private boolean does(int kind, int first, int second) {
        switch (kind) {
            case COW:
                return cow(first, second) != NONE;
            case GATE:
                return gate(first, true);
            case PLANT:
                return plant(first);
            case CUT:
                return cut(first);
            case PRESS:
                return press(first, second);
            case GO:
                return go(second, first) != NONE;
            default:
                return true;
        }
    }

    /** What one draw of YEARS brings; x is never below 0. */
    private void befall(int x) {
        Land land = now.land;
        int second = x / 7;
        switch (x % 7) {
            case 0:
                land.addHedge(second % HEDGES);
                break;
            case 1:
                land.removeHedge(second % HEDGES);
                break;
            case 2:
                if (now.hands > 0) {
                    land.hedges = hands.pattern(x % now.hands, second % TURNS);
                }
                break;
            case 3:
                if (land.told > 0 && land.canGo(x % land.told, second % WAYS)) {
                    land.comesHome(x % land.told, second % WAYS, now.gates);
                }
                break;
            default:
                if (land.hour < LAST_HOUR) {
                    passHour(land);
                }
                break;
        }
    }

    private boolean saysAll(Text text) {
        for (int i = 0; i < now.saids; i++) {
            if (judge.frostsOf(text, now.land, now.saidHedges[i]) != now.saidFrosts[i]) {
                return false;
            }
        }
        return true;
    }

    /** Which CELLS and HEDGES lie beside one another, whatever is planted. */
    private static final class Plan {
        static boolean isCell(int cell) {
            return cell >= 0 && cell < CELLS;
        }

        static boolean isWay(int way) {
            return way >= 0 && way < WAYS;
        }

        static boolean isHedge(int hedge) {
            return hedge >= 0 && hedge < HEDGES;
        }

        /** NONE beyond the rim, and for what is no WAY. */
        static int cellBeyond(int cell, int way) {
            switch (way) {
                case 0:
                    return cell >= SIDE ? cell - SIDE : NONE;
                case 1:
                    return cell % SIDE < SIDE - 1 ? cell + 1 : NONE;
                case 2:
                    return cell < CELLS - SIDE ? cell + SIDE : NONE;
                case 3:
                    return cell % SIDE > 0 ? cell - 1 : NONE;
                default:
                    return NONE;
            }
        }

        /** The HEDGE that would bar this WAY; NONE at the rim, and for what is no WAY. */
        static int hedgeBy(int cell, int way) {
            int row = cell / SIDE;
            int column = cell % SIDE;
            int toItsEast = row * (SIDE - 1) + column;
            switch (way) {
                case 0:
                    return row > 0 ? EASTS + cell - SIDE : NONE;
                case 1:
                    return column < SIDE - 1 ? toItsEast : NONE;
                case 2:
                    return row < SIDE - 1 ? EASTS + cell : NONE;
                case 3:
                    return column > 0 ? toItsEast - 1 : NONE;
                default:
                    return NONE;
            }
        }

        static int firstCell(int hedge) {
            return hedge < EASTS ? hedge / (SIDE - 1) * SIDE + hedge % (SIDE - 1) : hedge - EASTS;
        }

        static int secondCell(int hedge) {
            return firstCell(hedge) + (hedge < EASTS ? 1 : SIDE);
        }

        /** How many rows and columns they are apart, together; 0 if one is no CELL. */
        static int apart(int a, int b) {
            if (a < 0 || a >= CELLS || b < 0 || b >= CELLS) {
                return 0;
            }
            return Math.abs(a / SIDE - b / SIDE) + Math.abs(a % SIDE - b % SIDE);
        }
    }

    /** All that a STEP changes: HEDGES, COWS, HOUR, X and BOOK. */
    private static final class Land {
        /** A bit for each HEDGE that is there. */
        private long hedges;
        /** How many COWS have been told. */
        private int told;
        private final int[] at = new int[COWS];
        private final int[] way = new int[COWS];
        /** A bit for each COW that is home. */
        private int home;
        private int hour;
        private int x = FIRST_X;
        private int lines;
        /** Each line in one number, the eldest first: HOUR, what, which. */
        private final int[] book = new int[LINES];

        void copyFrom(Land from) {
            told = from.told;
            home = from.home;
            takeBackTo(from);
        }

        /** As it was then, but for COWS told since: nothing that moved them is left to take back, so they stay. */
        void takeBackTo(Land then) {
            hedges = then.hedges;
            hour = then.hour;
            x = then.x;
            lines = then.lines;
            System.arraycopy(then.book, 0, book, 0, LINES);
            int knownThen = (1 << then.told) - 1;
            home = home & ~knownThen | then.home;
            for (int cow = 0; cow < then.told; cow++) {
                at[cow] = then.at[cow];
                way[cow] = then.way[cow];
            }
        }

        int tellCow(int cell, int itsWay) {
            if (told >= COWS) {
                return NONE;
            }
            at[told] = cell;
            way[told] = itsWay;
            home &= ~(1 << told);
            told++;
            return told - 1;
        }

        boolean isCow(int cow) {
            return cow >= 0 && cow < told;
        }

        boolean isHome(int cow) {
            return (home >> cow & 1) == 1;
        }

        boolean hasHedge(int hedge) {
            return hedge >= 0 && hedge < HEDGES && (hedges >> hedge & 1) == 1;
        }

        void addHedge(int hedge) {
            hedges |= 1L << hedge;
        }

        void removeHedge(int hedge) {
            hedges &= ~(1L << hedge);
        }

        boolean isOpen(int cell, int toWay) {
            int hedge = Plan.hedgeBy(cell, toWay);
            return hedge != NONE && !hasHedge(hedge);
        }

        int openWays(int cell) {
            int set = 0;
            for (int i = 0; i < WAYS; i++) {
                if (isOpen(cell, i)) {
                    set |= 1 << i;
                }
            }
            return set;
        }

        int around(int cell) {
            int count = 0;
            for (int i = 0; i < WAYS; i++) {
                if (hasHedge(Plan.hedgeBy(cell, i))) {
                    count++;
                }
            }
            return count;
        }

        boolean canGo(int cow, int toWay) {
            return isCow(cow) && !isHome(cow) && Plan.isWay(toWay) && isOpen(at[cow], toWay);
        }

        /** GONE by a WAY that is open: whether the COW is home then. */
        boolean comesHome(int cow, int toWay, int gates) {
            at[cow] = Plan.cellBeyond(at[cow], toWay);
            way[cow] = toWay;
            if ((gates >> at[cow] & 1) == 0) {
                return false;
            }
            home |= 1 << cow;
            return true;
        }

        /** What a COW that goes does in an HOUR. */
        void wander(int cow, int gates) {
            int toWay = wayByHedge(at[cow], way[cow]);
            if (toWay != NONE && comesHome(cow, toWay, gates)) {
                write(CAME_HOME, cow);
            }
        }

        /** To the right, on, to the left, back: the first that is open; NONE if none is. */
        int wayByHedge(int cell, int itsWay) {
            int open = openWays(cell);
            for (int i = 0; i < WAYS; i++) {
                int next = (itsWay + TRIED[i]) % WAYS;
                if ((open >> next & 1) == 1) {
                    return next;
                }
            }
            return NONE;
        }

        /** The draw is X as it was, X being anew then. */
        int draw() {
            int drawn = x;
            x = (x * 587 + 457) % 30817;
            return drawn;
        }

        void write(int what, int which) {
            if (lines == LINES) {
                System.arraycopy(book, 1, book, 0, LINES - 1);
                lines--;
            }
            book[lines] = hour * 100 + what * 50 + which;
            lines++;
        }

        int lineHour(int i) {
            return book[i] / 100;
        }

        int lineKind(int i) {
            return book[i] / 50 % 2;
        }

        int lineWhich(int i) {
            return book[i] % 50;
        }

        /** A WALK of a COW that isn't home; NONE: it never comes there. */
        int stepsHome(int cow, int gates) {
            int cell = at[cow];
            int next = wayByHedge(cell, way[cow]);
            for (int steps = 1; steps <= CELLS * WAYS && next != NONE; steps++) {
                cell = Plan.cellBeyond(cell, next);
                if ((gates >> cell & 1) == 1) {
                    return steps;
                }
                next = wayByHedge(cell, next);
            }
            return NONE;
        }

        /** The way a COW has at first may never come again, but the one that it goes first does. */
        int ringOf(int cow) {
            int next = wayByHedge(at[cow], way[cow]);
            if (next == NONE) {
                return 0;
            }
            int start = Plan.cellBeyond(at[cow], next);
            int startWay = next;
            int cell = start;
            for (int steps = 1; steps <= CELLS * WAYS; steps++) {
                next = wayByHedge(cell, next);
                cell = Plan.cellBeyond(cell, next);
                if (cell == start && next == startWay) {
                    return steps;
                }
            }
            return 0;
        }
    }

    /** All that THE IMAGE has. */
    private static final class Farm {
        private final Land land = new Land();
        /** The land ahead of each STEP that can be taken back, the eldest at firstStep, and so round. */
        private final Land[] before = new Land[STEPS];
        private int firstStep;
        private int steps;
        private int gates;
        private int hands;
        private int texts;
        private int rule = NONE;
        private int saids;
        private final int[] saidHedges = new int[SAIDS];
        private final int[] saidFrosts = new int[SAIDS];

        Farm() {
            for (int i = 0; i < STEPS; i++) {
                before[i] = new Land();
            }
        }

        void copyFrom(Farm from) {
            land.copyFrom(from.land);
            firstStep = from.firstStep;
            steps = from.steps;
            for (int i = 0; i < steps; i++) {
                int slot = (firstStep + i) % STEPS;
                before[slot].copyFrom(from.before[slot]);
            }
            gates = from.gates;
            hands = from.hands;
            texts = from.texts;
            rule = from.rule;
            saids = from.saids;
            System.arraycopy(from.saidHedges, 0, saidHedges, 0, SAIDS);
            System.arraycopy(from.saidFrosts, 0, saidFrosts, 0, SAIDS);
        }

        /** The land as it is now is what the STEP that comes is taken back to; the eldest goes if there are 30. */
        void markStep() {
            if (steps == STEPS) {
                firstStep = (firstStep + 1) % STEPS;
                steps--;
            }
            before[(firstStep + steps) % STEPS].copyFrom(land);
            steps++;
        }

        boolean takeBack() {
            if (steps == 0) {
                return false;
            }
            steps--;
            land.takeBackTo(before[(firstStep + steps) % STEPS]);
            return true;
        }
    }

    /** HANDS, each turned in all 8 ways once it is told. */
    private static final class Hands {
        private final long[] patterns = new long[HANDS * TURNS];

        static boolean isTurn(int turn) {
            return turn >= 0 && turn < TURNS;
        }

        static int eastOf(long hedges) {
            return (int) (hedges & HALF);
        }

        static int southOf(long hedges) {
            return (int) (hedges >> EASTS & HALF);
        }

        void keep(int hand, long pattern) {
            long turning = pattern;
            for (int turn = 0; turn < TURNS; turn++) {
                if (turn == TURNS / 2) {
                    turning = mirrored(pattern);
                }
                patterns[hand * TURNS + turn] = turning;
                turning = quarterRight(turning);
            }
        }

        private static long mirrored(long pattern) {
            long seen = 0;
            for (int hedge = 0; hedge < HEDGES; hedge++) {
                if ((pattern >> hedge & 1) == 1) {
                    seen |= 1L << mirroredHedge(hedge);
                }
            }
            return seen;
        }

        /** Column k of the HEDGES to the east comes to 3 less k, of those to the south to 4 less k. */
        private static int mirroredHedge(int hedge) {
            int column = Plan.firstCell(hedge) % SIDE;
            int lastColumn = hedge < EASTS ? SIDE - 2 : SIDE - 1;
            return hedge - column + (lastColumn - column);
        }

        private static long quarterRight(long pattern) {
            long seen = 0;
            for (int hedge = 0; hedge < HEDGES; hedge++) {
                if ((pattern >> hedge & 1) == 1) {
                    seen |= 1L << quarterHedge(hedge);
                }
            }
            return seen;
        }

        /** Row r, column k come to row k, column 4 less r: so a HEDGE to the east comes to lie to the south. */
        private static int quarterHedge(int hedge) {
            int first = Plan.firstCell(hedge);
            int row = first / SIDE;
            int column = first % SIDE;
            if (hedge < EASTS) {
                return EASTS + column * SIDE + (SIDE - 1 - row);
            }
            return column * (SIDE - 1) + (SIDE - 2 - row);
        }

        long pattern(int hand, int turn) {
            return patterns[hand * TURNS + turn];
        }

        int unlikeness(int hand, int turn, long hedges) {
            return Long.bitCount(pattern(hand, turn) ^ hedges);
        }

        int likestTurn(int hand, long hedges) {
            int best = 0;
            for (int turn = 1; turn < TURNS; turn++) {
                if (unlikeness(hand, turn, hedges) < unlikeness(hand, best, hedges)) {
                    best = turn;
                }
            }
            return best;
        }

        /** The lowest turn by which the first is as the second; NONE without. */
        int turnInto(int first, int second) {
            for (int turn = 0; turn < TURNS; turn++) {
                if (pattern(first, turn) == pattern(second, 0)) {
                    return turn;
                }
            }
            return NONE;
        }

        boolean hasElderTwin(int hand) {
            for (int elder = 0; elder < hand; elder++) {
                if (turnInto(elder, hand) != NONE) {
                    return true;
                }
            }
            return false;
        }

        int selfTurns(int hand) {
            int count = 0;
            for (int turn = 0; turn < TURNS; turn++) {
                if (pattern(hand, turn) == pattern(hand, 0)) {
                    count++;
                }
            }
            return count;
        }

        int partingHedge(int hands, long land, int err) {
            int such = likePatterns(hands, land, err, NONE);
            if (such < 2) {
                return NONE;
            }
            int best = NONE;
            int fewest = such + 1;
            for (int hedge = 0; hedge < HEDGES; hedge++) {
                int there = likePatterns(hands, land, err, hedge);
                int left = Math.max(there, such - there);
                if (left < fewest) {
                    fewest = left;
                    best = hedge;
                }
            }
            return best;
        }

        /** How many HANDS turned are like the land but for err, of those with this HEDGE (NONE: of all). */
        private int likePatterns(int hands, long land, int err, int hedge) {
            int count = 0;
            for (int i = 0; i < hands * TURNS; i++) {
                boolean like = Long.bitCount(patterns[i] ^ land) <= err;
                if (like && (hedge == NONE || (patterns[i] >> hedge & 1) == 1)) {
                    count++;
                }
            }
            return count;
        }
    }

    /** The open WAYS of a land, for sets of CELLS as bits. */
    private static final class Maze {
        /** CELLS from which the WAY to the east is open, and those for the south. */
        private int toEast;
        private int toSouth;
        /** The CELLS that each one has by so many MILES, for fewestGates. */
        private final int[] near = new int[CELLS];

        void layOut(long hedges) {
            int east = Hands.eastOf(hedges);
            toEast = 0;
            for (int row = 0; row < SIDE; row++) {
                toEast |= (~(east >> row * (SIDE - 1)) & 15) << row * SIDE;
            }
            toSouth = ~Hands.southOf(hedges) & HALF;
        }

        /** The set, and all that is one step from it. */
        private int grown(int set) {
            return set | (set & toEast) << 1 | set >> 1 & toEast | (set & toSouth) << SIDE | set >> SIDE & toSouth;
        }

        /** The set, and all CELLS beside it, hedge or not. */
        private static int grownOver(int set) {
            return set | (set & NOT_EASTMOST) << 1 | set >> 1 & NOT_EASTMOST | set << SIDE & ALL_CELLS | set >> SIDE;
        }

        /** All that is so many MILES at most from the set. */
        int within(int set, int miles) {
            int reached = set;
            for (int i = 0; i < miles && i < CELLS; i++) {
                reached = grown(reached);
            }
            return reached;
        }

        /** All that can be come to from the set without leaving what is allowed. */
        private int flooded(int set, int allowed) {
            int reached = set;
            for (int i = 0; i < CELLS; i++) {
                int wider = grown(reached) & allowed;
                if (wider == reached) {
                    return reached;
                }
                reached = wider;
            }
            return reached;
        }

        int regionOf(int cell) {
            return flooded(1 << cell, ALL_CELLS);
        }

        /** The fewest steps to one CELL of the goal; NONE: no way. */
        int milesTo(int from, int goal) {
            int set = 1 << from;
            for (int miles = 0; miles < CELLS; miles++) {
                if ((set & goal) != 0) {
                    return miles;
                }
                set = grown(set);
            }
            return NONE;
        }

        /** The lowest WAY from a CELL that is so many MILES from the goal to one that is a MILE less. */
        int wayNearer(int cell, int goal, int miles) {
            int nearer = within(goal, miles - 1);
            for (int way = 0; way < WAYS; way++) {
                int beyond = Plan.cellBeyond(cell, way);
                if (beyond != NONE && (nearer >> beyond & 1) == 1 && (grown(1 << cell) >> beyond & 1) == 1) {
                    return way;
                }
            }
            return NONE;
        }

        /** Each round goes over one HEDGE more, and then as far as one can without. */
        int cutsTo(int from, int goal) {
            int set = regionOf(from);
            for (int cuts = 0; cuts < CELLS; cuts++) {
                if ((set & goal) != 0) {
                    return cuts;
                }
                set = flooded(grownOver(set), ALL_CELLS);
            }
            return NONE;
        }

        int farthestFrom(int cell) {
            int set = 1 << cell;
            int last = set;
            for (int i = 0; i < CELLS; i++) {
                int wider = grown(set);
                if (wider == set) {
                    break;
                }
                last = wider & ~set;
                set = wider;
            }
            return lowest(last);
        }

        private static int lowest(int set) {
            return Integer.bitCount((set & -set) - 1);
        }

        int regionCount() {
            int left = ALL_CELLS;
            int count = 0;
            for (int i = 0; i < CELLS && left != 0; i++) {
                left &= ~regionOf(lowest(left));
                count++;
            }
            return count;
        }

        int greatestRegion() {
            int left = ALL_CELLS;
            int most = 0;
            for (int i = 0; i < CELLS && left != 0; i++) {
                int region = regionOf(lowest(left));
                most = Math.max(most, Integer.bitCount(region));
                left &= ~region;
            }
            return most;
        }

        boolean isNeck(int cell) {
            int others = regionOf(cell) & ~(1 << cell);
            return others != 0 && flooded(others & -others, others) != others;
        }

        long pathsTo(int from, int goal) {
            if ((regionOf(from) & goal) == 0) {
                return 0;
            }
            return pathsOn(1 << from, goal, ALL_CELLS & ~(1 << from), 0);
        }

        /** CELLS as bits here; the depth is how many were gone through, and 25 are free at most. */
        private long pathsOn(int at, int goal, int free, int depth) {
            if (at == goal) {
                return 1;
            }
            if (depth >= CELLS) {
                return 0;
            }
            int left = grown(at) & free;
            long count = 0;
            for (int i = 0; i < WAYS && left != 0; i++) {
                int next = left & -left;
                left &= ~next;
                count += pathsOn(next, goal, free & ~next, depth + 1);
            }
            return count;
        }

        int fewestGates(int miles) {
            for (int cell = 0; cell < CELLS; cell++) {
                near[cell] = within(1 << cell, miles);
            }
            for (int count = 1; count <= MOST_GATES; count++) {
                int set = lowestCover(count, CELLS, 0);
                if (set != NONE) {
                    return set;
                }
            }
            return NONE;
        }

        /** The highest CELL is chosen first and goes up, so that the first set found is the lowest number. */
        private int lowestCover(int count, int below, int covered) {
            if (count <= 0) {
                return covered == ALL_CELLS ? 0 : NONE;
            }
            for (int cell = 0; cell < below; cell++) {
                if ((RIM >> cell & 1) == 1) {
                    int rest = lowestCover(count - 1, cell, covered | near[cell]);
                    if (rest != NONE) {
                        return rest | 1 << cell;
                    }
                }
            }
            return NONE;
        }
    }

    /** A TEXT that was read: its CLAUSES, and the code of its laws. */
    private static final class Text {
        private int clauses;
        private final int[] kinds = new int[CLAUSES];
        private final int[] firsts = new int[CLAUSES];
        private final int[] seconds = new int[CLAUSES];
        /** No TOKEN makes more than one entry, so that a tape's length is enough. */
        private final int[] code = new int[TAPE];
        private int size;
        private boolean hasFrosts;
        private int frostsFrom;
        private int frostsTo;
        private boolean hasGoes;
        private int goesFrom;
        private int goesTo;

        void clear() {
            clauses = 0;
            size = 0;
            hasFrosts = false;
            hasGoes = false;
        }

        void copyFrom(Text from) {
            clauses = from.clauses;
            System.arraycopy(from.kinds, 0, kinds, 0, CLAUSES);
            System.arraycopy(from.firsts, 0, firsts, 0, CLAUSES);
            System.arraycopy(from.seconds, 0, seconds, 0, CLAUSES);
            size = from.size;
            System.arraycopy(from.code, 0, code, 0, TAPE);
            hasFrosts = from.hasFrosts;
            frostsFrom = from.frostsFrom;
            frostsTo = from.frostsTo;
            hasGoes = from.hasGoes;
            goesFrom = from.goesFrom;
            goesTo = from.goesTo;
        }

        void addClause(int kind, int first, int second) {
            if (clauses < CLAUSES) {
                kinds[clauses] = kind;
                firsts[clauses] = first;
                seconds[clauses] = second;
                clauses++;
            }
        }

        boolean has(int law) {
            return law == FROSTS ? hasFrosts : hasGoes;
        }

        void beginLaw(int law) {
            addClause(law, 0, 0);
            if (law == FROSTS) {
                hasFrosts = true;
                frostsFrom = size;
            } else {
                hasGoes = true;
                goesFrom = size;
            }
        }

        void endLaw(int law) {
            if (law == FROSTS) {
                frostsTo = size;
            } else {
                goesTo = size;
            }
        }

        /** Always true, so that it can stand at the end of what has been read. */
        boolean emit(int what, int with) {
            if (size < TAPE) {
                code[size] = what + with * CODE;
                size++;
            }
            return true;
        }

        /** The jump that stands there goes to the code that comes next. */
        void landHere(int jump) {
            if (jump >= 0 && jump < size) {
                code[jump] = code[jump] % CODE + size * CODE;
            }
        }
    }

    /** The tape, and the reading of a TEXT from it. */
    private static final class Reader {
        private final int[] bytes = new int[TAPE];
        private int length;
        private final Text draft = new Text();
        private boolean hasRead;
        private int fault;
        private int faultPlace;
        /** The TOKEN that is come to: what it is, its first byte, its value; and where the next one is sought. */
        private int token;
        private int place;
        private int value;
        private int next;
        private int law;
        /** How many of ( not far hedge if - are open. */
        private int open;

        boolean hasRoomFor(int more) {
            return length + more <= TAPE;
        }

        void addFour(int four) {
            for (int shift = 24; shift >= 0 && length < TAPE; shift -= 8) {
                bytes[length] = four >> shift & 255;
                length++;
            }
        }

        /** Reads the tape into the draft; false: it has a FAULT. */
        boolean reads() {
            hasRead = true;
            fault = 0;
            faultPlace = NONE;
            draft.clear();
            open = 0;
            next = 0;
            advance();
            for (int i = 0; i <= CLAUSES && token != THE_END; i++) {
                if (!clause()) {
                    return false;
                }
            }
            return true;
        }

        private boolean refuse(int what) {
            fault = what;
            faultPlace = place;
            return false;
        }

        private boolean take(int wanted) {
            if (token != wanted) {
                return refuse(FAULT_PLACE);
            }
            advance();
            return true;
        }

        private boolean clause() {
            int kind = token;
            if (kind < FROSTS || kind > HOUR) {
                return refuse(FAULT_PLACE);
            }
            boolean isLaw = kind == FROSTS || kind == GOES;
            if (isLaw && draft.has(kind)) {
                return refuse(FAULT_AGAIN);
            }
            if (draft.clauses >= CLAUSES) {
                return refuse(FAULT_CLAUSES);
            }
            advance();
            if (!isLaw) {
                return deed(kind) && take(SEMICOLON);
            }
            law = kind;
            draft.beginLaw(kind);
            boolean whole = sum();
            draft.endLaw(kind);
            return whole && take(SEMICOLON);
        }

        private boolean deed(int kind) {
            switch (kind) {
                case COW:
                    return oneNumber(kind, 0, CELLS - 1) && secondNumber(WAY, WAYS - 1);
                case GATE:
                    return oneNumber(kind, 0, CELLS - 1);
                case PRESS:
                    return oneNumber(kind, 0, HANDS - 1) && secondNumber(TURN, TURNS - 1);
                case GO:
                    return oneNumber(kind, 0, WAYS - 1) && secondNumber(BY, COWS - 1);
                case HOUR:
                    return oneNumber(kind, 1, MOST_HOURS);
                default:
                    return oneNumber(kind, 0, HEDGES - 1);
            }
        }

        private boolean oneNumber(int kind, int least, int most) {
            if (!isNumber(least, most)) {
                return false;
            }
            draft.addClause(kind, value, 0);
            advance();
            return true;
        }

        private boolean secondNumber(int word, int most) {
            if (token != word) {
                return refuse(FAULT_PLACE);
            }
            advance();
            if (!isNumber(0, most)) {
                return false;
            }
            if (draft.clauses > 0) {
                draft.seconds[draft.clauses - 1] = value;
            }
            advance();
            return true;
        }

        private boolean isNumber(int least, int most) {
            if (token != NUMBER) {
                return refuse(FAULT_PLACE);
            }
            return value >= least && value <= most || refuse(FAULT_NUMBER);
        }

        private boolean sum() {
            if (!product()) {
                return false;
            }
            for (int i = 0; i < TAPE && (token == PLUS || token == MINUS); i++) {
                int sign = token;
                advance();
                if (!product()) {
                    return false;
                }
                draft.emit(sign, 0);
            }
            return true;
        }

        private boolean product() {
            if (!one()) {
                return false;
            }
            for (int i = 0; i < TAPE && (token == TIMES || token == DIVIDED); i++) {
                int sign = token;
                advance();
                if (!one()) {
                    return false;
                }
                draft.emit(sign, 0);
            }
            return true;
        }

        private boolean one() {
            if (token == NUMBER) {
                return isNumber(0, MOST_NUMBER) && emitAndAdvance(NUMBER, value);
            }
            if (token >= HOUR && token <= WAY) {
                return isNameHere() && emitAndAdvance(NAME, token - HOUR);
            }
            boolean nests = token == LEFT || token == MINUS || token == FAR || token == HEDGE || token == IF;
            return nests ? nested() : refuse(FAULT_PLACE);
        }

        private boolean emitAndAdvance(int what, int with) {
            draft.emit(what, with);
            advance();
            return true;
        }

        private boolean isNameHere() {
            boolean foreign = law == FROSTS ? token == WHO || token == WAY : token == NUMBER_NAME;
            return !foreign || refuse(FAULT_NAME);
        }

        /** What is open around something is closed again when it is whole. */
        private boolean nested() {
            if (open >= NESTED) {
                return refuse(FAULT_NESTED);
            }
            int kind = token;
            open++;
            advance();
            boolean whole = inside(kind);
            open--;
            return whole;
        }

        private boolean inside(int kind) {
            switch (kind) {
                case LEFT:
                    return sum() && take(RIGHT);
                case MINUS:
                    return one() && draft.emit(NEGATE, 0);
                case FAR:
                    return one() && take(OF) && one() && draft.emit(FAR, 0);
                case HEDGE:
                    return one() && draft.emit(HEDGE, 0);
                case NOT:
                    return ask() && draft.emit(NOT, 0);
                default:
                    return choice();
            }
        }

        private boolean choice() {
            if (!either() || !take(THEN)) {
                return false;
            }
            int toElse = draft.size;
            draft.emit(UNLESS, 0);
            if (!sum() || !take(ELSE)) {
                return false;
            }
            int toEnd = draft.size;
            draft.emit(SKIP, 0);
            draft.landHere(toElse);
            boolean whole = sum() && take(END);
            draft.landHere(toEnd);
            return whole;
        }

        private boolean either() {
            if (!both()) {
                return false;
            }
            for (int i = 0; i < TAPE && token == OR; i++) {
                advance();
                if (!both()) {
                    return false;
                }
                draft.emit(OR, 0);
            }
            return true;
        }

        private boolean both() {
            if (!ask()) {
                return false;
            }
            for (int i = 0; i < TAPE && token == AND; i++) {
                advance();
                if (!ask()) {
                    return false;
                }
                draft.emit(AND, 0);
            }
            return true;
        }

        private boolean ask() {
            if (token == NOT) {
                return nested();
            }
            if (!sum()) {
                return false;
            }
            int sign = token;
            boolean compares = sign >= LESS && sign <= OTHERWISE || sign == AT_MOST || sign == AT_LEAST;
            if (!compares) {
                return refuse(FAULT_PLACE);
            }
            advance();
            return sum() && draft.emit(sign, 0);
        }

        /** Comes to the next TOKEN. */
        private void advance() {
            while (next < length && isBlank(bytes[next])) {
                next++;
            }
            place = next;
            if (next >= length) {
                token = THE_END;
            } else if (isLetter(bytes[next])) {
                token = wordRead();
            } else if (isDigit(bytes[next])) {
                token = digitsRead();
            } else {
                token = signRead();
            }
        }

        private static boolean isBlank(int b) {
            return b == 32 || b == 10;
        }

        private static boolean isLetter(int b) {
            return b >= 'a' && b <= 'z' || b >= 'A' && b <= 'Z';
        }

        private static boolean isDigit(int b) {
            return b >= '0' && b <= '9';
        }

        private int wordRead() {
            while (next < length && isLetter(bytes[next])) {
                next++;
            }
            int size = next - place;
            int word = FROSTS;
            int matched = 0;
            for (int i = 0; i < WORDS.length(); i++) {
                char sign = WORDS.charAt(i);
                if (sign == ' ') {
                    if (matched == size) {
                        return word;
                    }
                    word++;
                    matched = 0;
                } else if (matched >= 0) {
                    matched = matched < size && bytes[place + matched] == sign ? matched + 1 : NONE;
                }
            }
            return NO_TOKEN;
        }

        /** What is above 9999 is above all that may be told, however long it is. */
        private int digitsRead() {
            value = 0;
            while (next < length && isDigit(bytes[next])) {
                value = Math.min(value * 10 + bytes[next] - '0', MOST_NUMBER + 1);
                next++;
            }
            return NUMBER;
        }

        private int signRead() {
            int found = SIGNS.indexOf((char) bytes[next]);
            next++;
            if (found < 0) {
                return NO_TOKEN;
            }
            int sign = LESS + found;
            boolean grows = sign == LESS || sign == MORE;
            if (!grows || next >= length || bytes[next] != '=') {
                return sign;
            }
            next++;
            return sign == LESS ? AT_MOST : AT_LEAST;
        }
    }

    /** Asks the laws of a TEXT. */
    private static final class Judge {
        /** What each NAME is now, from HOUR on in the order of WORDS. */
        private final int[] names = new int[WAY - HOUR + 1];
        private final int[] stack = new int[TAPE];
        private int height;

        int frostsOf(Text text, Land land, int hedge) {
            if (!text.hasFrosts) {
                return 3;
            }
            nameCommon(land, Plan.firstCell(hedge));
            names[NUMBER_NAME - HOUR] = hedge;
            return Math.max(0, Math.min(MOST_FROSTS, valueOf(text.code, text.frostsFrom, text.frostsTo, land)));
        }

        int goesOf(Text text, Land land, int cow) {
            if (!text.hasGoes) {
                return 1;
            }
            nameCommon(land, land.at[cow]);
            names[WHO - HOUR] = cow;
            names[WAY - HOUR] = land.way[cow];
            return Math.max(-99, Math.min(99, valueOf(text.code, text.goesFrom, text.goesTo, land)));
        }

        private void nameCommon(Land land, int cell) {
            names[0] = land.hour;
            names[CELL - HOUR] = cell;
            names[AROUND - HOUR] = land.around(cell);
            names[ALL - HOUR] = Long.bitCount(land.hedges);
        }

        /** Jumps go onwards alone, so that no more is done than there is code. */
        private int valueOf(int[] code, int from, int to, Land land) {
            height = 0;
            int at = from;
            for (int done = 0; done < TAPE && at >= 0 && at < to && at < code.length; done++) {
                int what = code[at] % CODE;
                int with = code[at] / CODE;
                at++;
                if (what == SKIP) {
                    at = with;
                } else if (what == UNLESS) {
                    at = pop() == 0 ? with : at;
                } else if (what == NUMBER) {
                    push(with);
                } else if (what == NAME) {
                    push(with < names.length ? names[with] : 0);
                } else if (what == HEDGE) {
                    push(land.hasHedge(pop()) ? 1 : 0);
                } else if (what == NEGATE) {
                    push(-pop());
                } else if (what == NOT) {
                    push(1 - pop());
                } else {
                    int second = pop();
                    push(ofTwo(what, pop(), second));
                }
            }
            return pop();
        }

        private int pop() {
            if (height <= 0) {
                return 0;
            }
            height--;
            return stack[height];
        }

        private void push(int value) {
            if (height < TAPE) {
                stack[height] = value;
                height++;
            }
        }

        private static int ofTwo(int what, int a, int b) {
            switch (what) {
                case PLUS:
                    return bounded((long) a + b);
                case MINUS:
                    return bounded((long) a - b);
                case TIMES:
                    return bounded((long) a * b);
                case DIVIDED:
                    return b == 0 ? 0 : a / b;
                case FAR:
                    return Plan.apart(a, b);
                case AND:
                    return a & b;
                case OR:
                    return a | b;
                default:
                    return compares(what, a, b) ? 1 : 0;
            }
        }

        private static int bounded(long value) {
            return (int) Math.max(-MOST_VALUE, Math.min(MOST_VALUE, value));
        }

        private static boolean compares(int what, int a, int b) {
            switch (what) {
                case LESS:
                    return a < b;
                case AT_MOST:
                    return a <= b;
                case MORE:
                    return a > b;
                case AT_LEAST:
                    return a >= b;
                case EQUAL:
                    return a == b;
                default:
                    return a != b;
            }
        }
    }
}
