import java.util.ArrayList;
import java.util.HashMap;
import java.util.HashSet;
import java.util.List;
import java.util.Map;
import java.util.Set;
import java.util.TreeSet;

/** The document said a second time, slowly and in another way, for ModelTest: sets and lists, copied whole. */
final class Model {
    /** A law, or part of it: what it says. */
    interface Sum {
        long of(Map<String, Integer> names);
    }

    /** A question of a law. */
    interface Ask {
        boolean of(Map<String, Integer> names);
    }

    /** A FAULT that ends the reading. */
    static final class Fault extends Exception {
        private static final long serialVersionUID = 1L;
        final int what;
        final int place;

        Fault(int what, int place) {
            this.what = what;
            this.place = place;
        }
    }

    static final class Cow {
        int cell;
        int way;
        boolean home;

        Cow(int cell, int way, boolean home) {
            this.cell = cell;
            this.way = way;
            this.home = home;
        }
    }

    static final class Script {
        Sum frosts;
        Sum goes;
        final List<String> kinds = new ArrayList<>();
        final List<int[]> numbers = new ArrayList<>();
    }

    /** HEDGES, COWS, HOUR, X, BOOK. */
    static final class Land {
        Set<Integer> hedges = new TreeSet<>();
        List<Cow> cows = new ArrayList<>();
        int hour = 0;
        int x = 331;
        List<int[]> book = new ArrayList<>();

        Land copy() {
            Land to = new Land();
            to.hedges.addAll(hedges);
            for (Cow cow : cows) {
                to.cows.add(new Cow(cow.cell, cow.way, cow.home));
            }
            to.hour = hour;
            to.x = x;
            to.book.addAll(book);
            return to;
        }
    }

    static final class State {
        Land land = new Land();
        List<Land> steps = new ArrayList<>();
        List<Cow> told = new ArrayList<>();
        List<Set<Integer>> hands = new ArrayList<>();
        List<Script> texts = new ArrayList<>();
        Set<Integer> gates = new TreeSet<>();
        List<int[]> said = new ArrayList<>();
        int rule = -1;

        State copy() {
            State to = new State();
            to.land = land.copy();
            for (Land step : steps) {
                to.steps.add(step.copy());
            }
            to.told.addAll(told);
            to.hands.addAll(hands);
            to.texts.addAll(texts);
            to.gates.addAll(gates);
            to.said.addAll(said);
            to.rule = rule;
            return to;
        }
    }

    private static final int[] DOWN = {-1, 0, 1, 0};
    private static final int[] ACROSS = {0, 1, 0, -1};
    private static final Map<Long, Integer> BETWEEN = new HashMap<>();
    private static final int[][] BESIDE = new int[40][];

    static {
        int number = 0;
        for (int row = 0; row < 5; row++) {
            for (int column = 0; column < 4; column++) {
                number = lay(number, 5 * row + column, 5 * row + column + 1);
            }
        }
        for (int row = 0; row < 4; row++) {
            for (int column = 0; column < 5; column++) {
                number = lay(number, 5 * row + column, 5 * row + column + 5);
            }
        }
    }

    private State now = new State();
    private State kept = new State();
    private StringBuilder tape = new StringBuilder();
    private int fault = -1;
    private int faultPlace = -1;

    private static int lay(int number, int a, int b) {
        BESIDE[number] = new int[] {a, b};
        BETWEEN.put(100L * a + b, number);
        BETWEEN.put(100L * b + a, number);
        return number + 1;
    }

    static boolean in(int value, int least, int most) {
        return value >= least && value <= most;
    }

    private static int bits(Iterable<Integer> set) {
        int all = 0;
        for (int i : set) {
            all |= 1 << i;
        }
        return all;
    }

    private static int beyond(int cell, int way) {
        int row = cell / 5 + DOWN[way];
        int column = cell % 5 + ACROSS[way];
        return in(row, 0, 4) && in(column, 0, 4) ? 5 * row + column : -1;
    }

    private static boolean rim(int cell) {
        for (int way = 0; way < 4; way++) {
            if (beyond(cell, way) < 0) {
                return true;
            }
        }
        return false;
    }

    private boolean open(Land land, int cell, int way) {
        int to = beyond(cell, way);
        return to >= 0 && !land.hedges.contains(BETWEEN.get(100L * cell + to));
    }

    // ---- told ----

    int hand(int east, int south) {
        if (!in(east, 0, (1 << 20) - 1) || !in(south, 0, (1 << 20) - 1) || now.hands.size() == 4) {
            return -1;
        }
        Set<Integer> hand = new TreeSet<>();
        for (int i = 0; i < 20; i++) {
            if ((east >> i) % 2 == 1) {
                hand.add(i);
            }
            if ((south >> i) % 2 == 1) {
                hand.add(20 + i);
            }
        }
        now.hands.add(hand);
        return now.hands.size() - 1;
    }

    int cow(int cell, int way) {
        if (!in(cell, 0, 24) || !in(way, 0, 3) || now.land.cows.size() == 5) {
            return -1;
        }
        now.land.cows.add(new Cow(cell, way, false));
        now.told.add(new Cow(cell, way, false));
        return now.land.cows.size() - 1;
    }

    boolean gate(int cell, boolean is) {
        if (!in(cell, 0, 24) || !rim(cell)) {
            return false;
        }
        if (is) {
            now.gates.add(cell);
        } else {
            now.gates.remove(cell);
        }
        return true;
    }

    int feed(int a, int b, int c, int d, int e) {
        if (tape.length() > 280) {
            return -1;
        }
        for (int word : new int[] {a, b, c, d, e}) {
            for (int i = 3; i >= 0; i--) {
                tape.append((char) (word >>> 8 * i & 0xFF));
            }
        }
        return tape.length();
    }

    int end(int n) {
        if (!in(n, 0, tape.length())) {
            return -1;
        }
        tape.setLength(n);
        return n;
    }

    int text() {
        if (now.texts.size() == 4) {
            return -1;
        }
        String signs = tape.toString();
        tape.setLength(0);
        try {
            Script script = new Parser(signs).script();
            fault = 0;
            faultPlace = -1;
            now.texts.add(script);
            return now.texts.size() - 1;
        } catch (Fault f) {
            fault = f.what;
            faultPlace = f.place;
            return -1;
        }
    }

    int fault(int what) {
        return what == 0 ? fault : what == 1 && fault >= 0 ? faultPlace : -1;
    }

    boolean by(int text) {
        if (!in(text, -1, now.texts.size() - 1)) {
            return false;
        }
        now.rule = text;
        return true;
    }

    // ---- done ----

    private void step() {
        now.steps.add(now.land.copy());
        if (now.steps.size() > 30) {
            now.steps.remove(0);
        }
    }

    boolean plant(int hedge) {
        if (!in(hedge, 0, 39) || now.land.hedges.contains(hedge)) {
            return false;
        }
        step();
        return now.land.hedges.add(hedge);
    }

    boolean cut(int hedge) {
        if (!now.land.hedges.contains(hedge)) {
            return false;
        }
        step();
        return now.land.hedges.remove(hedge);
    }

    boolean press(int hand, int turn) {
        if (!in(hand, 0, now.hands.size() - 1) || !in(turn, 0, 7)) {
            return false;
        }
        step();
        now.land.hedges = turn(now.hands.get(hand), turn);
        return true;
    }

    /** Each end of a HEDGE is turned as a point of the plane around CELL 12. */
    private static Set<Integer> turn(Set<Integer> hand, int turn) {
        Set<Integer> to = new TreeSet<>();
        for (int hedge : hand) {
            int[] ends = new int[2];
            for (int i = 0; i < 2; i++) {
                int east = BESIDE[hedge][i] % 5 - 2;
                int north = 2 - BESIDE[hedge][i] / 5;
                if (turn >= 4) {
                    east = -east;
                }
                for (int q = 0; q < turn % 4; q++) {
                    int was = east;
                    east = north;
                    north = -was;
                }
                ends[i] = 5 * (2 - north) + east + 2;
            }
            to.add(BETWEEN.get(100L * ends[0] + ends[1]));
        }
        return to;
    }

    private boolean canGo(int cow, int way) {
        return in(cow, 0, now.land.cows.size() - 1) && in(way, 0, 3) && !now.land.cows.get(cow).home
                && open(now.land, now.land.cows.get(cow).cell, way);
    }

    private void move(Cow cow, int way) {
        cow.cell = beyond(cow.cell, way);
        cow.way = way;
        cow.home = now.gates.contains(cow.cell);
    }

    int go(int cow, int way) {
        if (!canGo(cow, way)) {
            return -1;
        }
        step();
        move(now.land.cows.get(cow), way);
        return now.land.cows.get(cow).cell;
    }

    private static int draw(Land land, int by) {
        int value = land.x % by;
        land.x = (int) ((land.x * 587L + 457) % 30817);
        return value;
    }

    private void write(Land land, int what, int which) {
        land.book.add(new int[] {land.hour, what, which});
        if (land.book.size() > 30) {
            land.book.remove(0);
        }
    }

    private int rightHand(Land land, int cell, int way) {
        for (int turn : new int[] {1, 4, 3, 2}) {
            if (open(land, cell, (way + turn) % 4)) {
                return (way + turn) % 4;
            }
        }
        return -1;
    }

    private int anHour(Land land) {
        int home = 0;
        for (int i = 0; i < land.cows.size(); i++) {
            Cow cow = land.cows.get(i);
            if (!cow.home && goes(land, i) > 0) {
                int way = rightHand(land, cow.cell, cow.way);
                if (way >= 0) {
                    move(cow, way);
                }
                if (cow.home) {
                    write(land, 1, i);
                    home++;
                }
            }
        }
        int hedge = draw(land, 40);
        if (land.hedges.contains(hedge)) {
            int odds = draw(land, 10);
            if (odds < frosts(ruling(), land, hedge)) {
                land.hedges.remove(hedge);
                write(land, 0, hedge);
            }
        }
        land.hour++;
        return home;
    }

    int hour(int n) {
        if (!in(n, 1, 60) || now.land.hour + n > 9999) {
            return -1;
        }
        int home = 0;
        for (int i = 0; i < n; i++) {
            step();
            home += anHour(now.land);
        }
        return home;
    }

    int played(int text) {
        if (!in(text, 0, now.texts.size() - 1)) {
            return -2;
        }
        Script script = now.texts.get(text);
        for (int i = 0; i < script.kinds.size(); i++) {
            if (!done(script.kinds.get(i), script.numbers.get(i))) {
                return i;
            }
        }
        return -1;
    }

    private boolean done(String kind, int[] n) {
        switch (kind) {
            case "cow":
                return cow(n[0], n[1]) >= 0;
            case "gate":
                return gate(n[0], true);
            case "plant":
                return plant(n[0]);
            case "cut":
                return cut(n[0]);
            case "press":
                return press(n[0], n[1]);
            case "go":
                return go(n[1], n[0]) >= 0;
            case "hour":
                int can = Math.min(n[0], 9999 - now.land.hour);
                if (can > 0) {
                    hour(can);
                }
                return can == n[0];
            default:
                return true;
        }
    }

    int years(int seed, int n) {
        if (!in(seed, 0, 9999) || !in(n, 1, 40)) {
            return -1;
        }
        step();
        Land land = now.land;
        land.x = seed * 2 + 331;
        for (int i = 0; i < n; i++) {
            int x = draw(land, 1000000);
            int kind = x % 7;
            if (kind == 0) {
                land.hedges.add(x / 7 % 40);
            } else if (kind == 1) {
                land.hedges.remove(x / 7 % 40);
            } else if (kind == 2 && !now.hands.isEmpty()) {
                land.hedges = turn(now.hands.get(x % now.hands.size()), x / 7 % 8);
            } else if (kind == 3 && !land.cows.isEmpty() && canGo(x % land.cows.size(), x / 7 % 4)) {
                move(land.cows.get(x % land.cows.size()), x / 7 % 4);
            } else if (kind > 3 && land.hour < 9999) {
                anHour(land);
            }
        }
        return land.hour;
    }

    int undo() {
        if (now.steps.isEmpty()) {
            return -1;
        }
        now.land = now.steps.remove(now.steps.size() - 1);
        for (int i = now.land.cows.size(); i < now.told.size(); i++) {
            now.land.cows.add(new Cow(now.told.get(i).cell, now.told.get(i).way, false));
        }
        return now.steps.size();
    }

    // ---- laws ----

    private Script ruling() {
        return now.rule < 0 ? null : now.texts.get(now.rule);
    }

    private Map<String, Integer> names(Land land, int cell) {
        Map<String, Integer> names = new HashMap<>();
        names.put("hour", land.hour);
        names.put("cell", cell);
        names.put("around", around(land, cell));
        names.put("all", land.hedges.size());
        for (int hedge : land.hedges) {
            names.put("hedge " + hedge, 1);
        }
        return names;
    }

    private static int around(Land land, int cell) {
        int count = 0;
        for (int hedge : land.hedges) {
            count += BESIDE[hedge][0] == cell || BESIDE[hedge][1] == cell ? 1 : 0;
        }
        return count;
    }

    private int frosts(Script script, Land land, int hedge) {
        if (script == null || script.frosts == null) {
            return 3;
        }
        Map<String, Integer> names = names(land, BESIDE[hedge][0]);
        names.put("number", hedge);
        long value = script.frosts.of(names);
        return value < 0 ? 0 : value > 10 ? 10 : (int) value;
    }

    private int goes(Land land, int who) {
        Script script = ruling();
        if (script == null || script.goes == null) {
            return 1;
        }
        Cow cow = land.cows.get(who);
        Map<String, Integer> names = names(land, cow.cell);
        names.put("who", who);
        names.put("way", cow.way);
        long value = script.goes.of(names);
        return value < -99 ? -99 : value > 99 ? 99 : (int) value;
    }

    // ---- what is ----

    int of(int cow, int what) {
        if (!in(cow, 0, now.land.cows.size() - 1) || !in(what, 0, 2)) {
            return -100;
        }
        Cow it = now.land.cows.get(cow);
        return what == 0 ? it.home ? -1 : it.cell : what == 1 ? it.way : it.home ? -100 : goes(now.land, cow);
    }

    int cell(int cell, int what) {
        if (!in(cell, 0, 24) || !in(what, 0, 3)) {
            return -1;
        }
        if (what == 0) {
            return around(now.land, cell);
        }
        if (what == 1) {
            int set = 0;
            for (int way = 0; way < 4; way++) {
                set += open(now.land, cell, way) ? 1 << way : 0;
            }
            return set;
        }
        if (what == 2) {
            return now.gates.contains(cell) ? 1 : 0;
        }
        int count = 0;
        for (int miles : distances(-1, false)[cell]) {
            count += miles < FAR ? 1 : 0;
        }
        return count;
    }

    int hedge(int hedge, int what) {
        if (!in(hedge, 0, 39) || !in(what, 0, 3)) {
            return -1;
        }
        if (what == 0) {
            return now.land.hedges.contains(hedge) ? 1 : 0;
        }
        return what < 3 ? BESIDE[hedge][what - 1] : frosts(ruling(), now.land, hedge);
    }

    int between(int a, int b) {
        if (!in(a, 0, 24) || !in(b, 0, 24)) {
            return -1;
        }
        return BETWEEN.getOrDefault(100L * a + b, -1);
    }

    int is(int what) {
        int east = 0;
        int south = 0;
        for (int hedge : now.land.hedges) {
            east += hedge < 20 ? 1 << hedge : 0;
            south += hedge >= 20 ? 1 << hedge - 20 : 0;
        }
        int[] all = {now.land.hour, now.land.x, east, south, now.land.hedges.size()};
        return in(what, 0, 4) ? all[what] : -2;
    }

    int book(int i, int what) {
        if (i == -1) {
            return now.land.book.size();
        }
        return in(i, 0, now.land.book.size() - 1) && in(what, 0, 2) ? now.land.book.get(i)[what] : -2;
    }

    int foretold(int n, int cow) {
        if (!in(n, 1, 60) || !in(cow, 0, now.land.cows.size() - 1)) {
            return -2;
        }
        Land land = now.land.copy();
        for (int i = 0; i < n; i++) {
            if (land.hour < 9999) {
                anHour(land);
            }
        }
        return land.cows.get(cow).home ? -1 : land.cows.get(cow).cell;
    }

    // ---- ways ----

    private static final int FAR = 1000;

    /** All MILES, without one CELL (-1: with all); or, over hedges, how many there are between. */
    private int[][] distances(int without, boolean over) {
        int[][] miles = new int[25][25];
        for (int a = 0; a < 25; a++) {
            for (int b = 0; b < 25; b++) {
                miles[a][b] = a == b ? 0 : FAR;
            }
            for (int way = 0; way < 4; way++) {
                int b = beyond(a, way);
                if (b >= 0 && a != without && b != without) {
                    boolean free = open(now.land, a, way);
                    miles[a][b] = over ? free ? 0 : 1 : free ? 1 : FAR;
                }
            }
        }
        for (int c = 0; c < 25; c++) {
            for (int a = 0; a < 25; a++) {
                for (int b = 0; b < 25; b++) {
                    miles[a][b] = Math.min(miles[a][b], miles[a][c] + miles[c][b]);
                }
            }
        }
        return miles;
    }

    int miles(int a, int b) {
        if (!in(a, 0, 24) || !in(b, 0, 24)) {
            return -1;
        }
        int miles = distances(-1, false)[a][b];
        return miles >= FAR ? -1 : miles;
    }

    int way(int a, int b, int i) {
        if (!in(a, 0, 24) || !in(b, 0, 24)) {
            return -2;
        }
        int[][] miles = distances(-1, false);
        if (miles[a][b] >= FAR || !in(i, 0, miles[a][b] - 1)) {
            return -2;
        }
        List<Integer> steps = new ArrayList<>();
        int at = a;
        while (at != b) {
            for (int way = 0; way < 4; way++) {
                if (open(now.land, at, way) && miles[beyond(at, way)][b] == miles[at][b] - 1) {
                    steps.add(way);
                    at = beyond(at, way);
                    break;
                }
            }
        }
        return steps.get(i);
    }

    int cuts(int a, int b) {
        return in(a, 0, 24) && in(b, 0, 24) ? distances(-1, true)[a][b] : -1;
    }

    int farthest(int cell) {
        if (!in(cell, 0, 24)) {
            return -1;
        }
        int[] miles = distances(-1, false)[cell];
        int best = cell;
        for (int to = 24; to >= 0; to--) {
            if (miles[to] < FAR && miles[to] >= miles[best]) {
                best = to;
            }
        }
        return best;
    }

    int wide() {
        int most = 0;
        for (int[] row : distances(-1, false)) {
            for (int miles : row) {
                most = miles < FAR ? Math.max(most, miles) : most;
            }
        }
        return most;
    }

    private List<Set<Integer>> regionSets() {
        int[][] miles = distances(-1, false);
        List<Set<Integer>> all = new ArrayList<>();
        for (int a = 0; a < 25; a++) {
            Set<Integer> region = new TreeSet<>();
            for (int b = 0; b < 25; b++) {
                if (miles[a][b] < FAR) {
                    region.add(b);
                }
            }
            if (!all.contains(region)) {
                all.add(region);
            }
        }
        return all;
    }

    int regions(boolean most) {
        int greatest = 0;
        for (Set<Integer> region : regionSets()) {
            greatest = Math.max(greatest, region.size());
        }
        return most ? greatest : regionSets().size();
    }

    int rings() {
        int open = 0;
        for (int hedge = 0; hedge < 40; hedge++) {
            open += now.land.hedges.contains(hedge) ? 0 : 1;
        }
        return open - 25 + regionSets().size();
    }

    int ends() {
        Set<Integer> set = new TreeSet<>();
        for (int cell = 0; cell < 25; cell++) {
            if (Integer.bitCount(cell(cell, 1)) == 1) {
                set.add(cell);
            }
        }
        return bits(set);
    }

    int necks() {
        Set<Integer> set = new TreeSet<>();
        int[][] with = distances(-1, false);
        for (int cell = 0; cell < 25; cell++) {
            int[][] without = distances(cell, false);
            for (int a = 0; a < 25; a++) {
                for (int b = 0; b < 25; b++) {
                    if (a != cell && b != cell && with[a][b] < FAR && without[a][b] >= FAR) {
                        set.add(cell);
                    }
                }
            }
        }
        return bits(set);
    }

    long paths(int a, int b) {
        return in(a, 0, 24) && in(b, 0, 24) ? pathsOn(a, b, new boolean[25]) : -1;
    }

    private long pathsOn(int a, int b, boolean[] been) {
        if (a == b) {
            return 1;
        }
        long count = 0;
        been[a] = true;
        for (int way = 0; way < 4; way++) {
            if (open(now.land, a, way) && !been[beyond(a, way)]) {
                count += pathsOn(beyond(a, way), b, been);
            }
        }
        been[a] = false;
        return count;
    }

    int walk(int cow, boolean ring) {
        if (!in(cow, 0, now.land.cows.size() - 1)) {
            return -1;
        }
        Cow it = now.land.cows.get(cow);
        if (it.home) {
            return ring ? -1 : 0;
        }
        Map<Integer, Integer> been = new HashMap<>();
        int cell = it.cell;
        int way = it.way;
        int steps = 0;
        while (!been.containsKey(cell * 4 + way)) {
            been.put(cell * 4 + way, steps);
            int next = rightHand(now.land, cell, way);
            if (next < 0) {
                return ring ? 0 : -1;
            }
            cell = beyond(cell, next);
            way = next;
            steps++;
            if (now.gates.contains(cell)) {
                return ring ? -1 : steps;
            }
        }
        return ring ? steps - been.get(cell * 4 + way) : -1;
    }

    int home(int n) {
        if (!in(n, 0, 99)) {
            return -1;
        }
        int[][] miles = distances(-1, false);
        Set<Integer> set = new TreeSet<>();
        for (int i = 0; i < now.land.cows.size(); i++) {
            Cow cow = now.land.cows.get(i);
            boolean could = cow.home;
            for (int gate : now.gates) {
                could |= miles[cow.cell][gate] <= n;
            }
            if (could) {
                set.add(i);
            }
        }
        return bits(set);
    }

    int gates(int n, boolean many) {
        if (!in(n, 0, 24)) {
            return -1;
        }
        int[][] miles = distances(-1, false);
        int[] near = new int[25];
        for (int a = 0; a < 25; a++) {
            for (int b = 0; b < 25; b++) {
                near[a] |= rim(a) && miles[a][b] <= n ? 1 << b : 0;
            }
        }
        int best = -1;
        for (int a = 0; a < 25; a++) {
            for (int b = a; b < 25; b++) {
                for (int c = b; c < 25; c++) {
                    for (int d = c; d < 25; d++) {
                        int set = 1 << a | 1 << b | 1 << c | 1 << d;
                        boolean covers = (near[a] | near[b] | near[c] | near[d]) == 0x1FFFFFF;
                        boolean all = rim(a) && rim(b) && rim(c) && rim(d);
                        if (covers && all && (best < 0 || better(set, best))) {
                            best = set;
                        }
                    }
                }
            }
        }
        return best < 0 || !many ? best : Integer.bitCount(best);
    }

    private static boolean better(int set, int best) {
        int fewer = Integer.bitCount(best) - Integer.bitCount(set);
        return fewer > 0 || fewer == 0 && set < best;
    }

    // ---- hands ----

    int turned(int hand, int turn, boolean south) {
        if (!in(hand, 0, now.hands.size() - 1) || !in(turn, 0, 7)) {
            return -1;
        }
        int set = 0;
        for (int hedge : turn(now.hands.get(hand), turn)) {
            set |= hedge >= 20 == south ? 1 << hedge % 20 : 0;
        }
        return set;
    }

    private int differ(Set<Integer> a) {
        Set<Integer> either = new HashSet<>(a);
        either.addAll(now.land.hedges);
        Set<Integer> both = new HashSet<>(a);
        both.retainAll(now.land.hedges);
        return either.size() - both.size();
    }

    int unlike(int hand, boolean turn) {
        if (!in(hand, 0, now.hands.size() - 1)) {
            return -1;
        }
        int best = 0;
        int least = 99;
        for (int i = 0; i < 8; i++) {
            int differ = differ(turn(now.hands.get(hand), i));
            if (differ < least) {
                least = differ;
                best = i;
            }
        }
        return turn ? best : least;
    }

    int owner(int err) {
        if (!in(err, 0, 40)) {
            return -1;
        }
        int best = -1;
        for (int hand = now.hands.size() - 1; hand >= 0; hand--) {
            if (unlike(hand, false) <= err && (best < 0 || unlike(hand, false) <= unlike(best, false))) {
                best = hand;
            }
        }
        return best;
    }

    int twins(int a, int b) {
        if (!in(a, 0, now.hands.size() - 1) || !in(b, 0, now.hands.size() - 1) || a == b) {
            return -1;
        }
        for (int turn = 0; turn < 8; turn++) {
            if (turn(now.hands.get(a), turn).equals(now.hands.get(b))) {
                return turn;
            }
        }
        return -1;
    }

    int kinds() {
        Set<Set<Set<Integer>>> kinds = new HashSet<>();
        for (Set<Integer> hand : now.hands) {
            Set<Set<Integer>> kind = new HashSet<>();
            for (int turn = 0; turn < 8; turn++) {
                kind.add(turn(hand, turn));
            }
            kinds.add(kind);
        }
        return kinds.size();
    }

    int selves(int hand) {
        if (!in(hand, 0, now.hands.size() - 1)) {
            return -1;
        }
        int count = 0;
        for (int turn = 0; turn < 8; turn++) {
            count += turn(now.hands.get(hand), turn).equals(now.hands.get(hand)) ? 1 : 0;
        }
        return count;
    }

    int look(int err) {
        if (!in(err, 0, 40)) {
            return -1;
        }
        List<Set<Integer>> such = new ArrayList<>();
        for (Set<Integer> hand : now.hands) {
            for (int turn = 0; turn < 8; turn++) {
                if (differ(turn(hand, turn)) <= err) {
                    such.add(turn(hand, turn));
                }
            }
        }
        int best = -1;
        int fewest = 99;
        for (int hedge = 0; hedge < 40 && such.size() > 1; hedge++) {
            int there = 0;
            for (Set<Integer> one : such) {
                there += one.contains(hedge) ? 1 : 0;
            }
            if (Math.max(there, such.size() - there) < fewest) {
                fewest = Math.max(there, such.size() - there);
                best = hedge;
            }
        }
        return best;
    }

    int said(int hedge, int frosts) {
        if (hedge == -1) {
            now.said.clear();
            return 0;
        }
        if (!in(hedge, 0, 39) || !in(frosts, 0, 10) || now.said.size() == 8) {
            return -2;
        }
        now.said.add(new int[] {hedge, frosts});
        return now.said.size();
    }

    int whose() {
        Set<Integer> set = new TreeSet<>();
        for (int i = 0; i < now.texts.size(); i++) {
            boolean all = true;
            for (int[] said : now.said) {
                all &= frosts(now.texts.get(i), now.land, said[0]) == said[1];
            }
            if (all) {
                set.add(i);
            }
        }
        return bits(set);
    }

    int thickest() {
        int best = 24;
        for (int cell = 24; cell >= 0; cell--) {
            if (around(now.land, cell) >= around(now.land, best)) {
                best = cell;
            }
        }
        return best;
    }

    int ledger(int what) {
        if (!in(what, 0, 1)) {
            return -2;
        }
        int count = 0;
        for (int[] line : now.land.book) {
            count += line[1] == what ? 1 : 0;
        }
        return count;
    }

    int image() {
        kept = now.copy();
        return now.land.hour;
    }

    int back() {
        now = kept.copy();
        return now.land.hour;
    }

    int about(int what) {
        int[] all = {now.hands.size(), now.land.cows.size(), now.texts.size(), now.rule, now.steps.size(),
            now.said.size(), tape.length(), bits(now.gates)};
        return in(what, 0, 7) ? all[what] : -2;
    }

    /** Reads a TEXT; what is open around a part is told to it as a number. */
    private static final class Parser {
        private final List<String> tokens = new ArrayList<>();
        private final List<Integer> places = new ArrayList<>();
        private int i = 0;
        private boolean frosts;

        Parser(String signs) {
            java.util.regex.Matcher m = java.util.regex.Pattern
                    .compile("[a-zA-Z]+|[0-9]+|<=|>=|[<>=#+*/();-]|[ \n]+|.", java.util.regex.Pattern.DOTALL)
                    .matcher(signs);
            while (m.find()) {
                if (!m.group().isBlank() || !m.group().matches("[ \n]+")) {
                    tokens.add(m.group());
                    places.add(m.start());
                }
            }
            tokens.add("");
            places.add(signs.length());
        }

        private String token() {
            return tokens.get(i);
        }

        private Fault fault(int what) {
            return new Fault(what, places.get(i));
        }

        private boolean is(String words) {
            return !token().isEmpty() && (" " + words + " ").contains(" " + token() + " ");
        }

        private void take(String word) throws Fault {
            if (!token().equals(word)) {
                throw fault(1);
            }
            i++;
        }

        private int number(int least, int most) throws Fault {
            if (!token().matches("[0-9]+")) {
                throw fault(1);
            }
            java.math.BigInteger value = new java.math.BigInteger(token());
            if (value.bitLength() > 30 || !in(value.intValue(), least, most)) {
                throw fault(2);
            }
            i++;
            return value.intValue();
        }

        Script script() throws Fault {
            Script script = new Script();
            while (!token().isEmpty()) {
                if (!is("frosts goes cow gate plant cut press go hour")) {
                    throw fault(1);
                }
                if (is("frosts") && script.frosts != null || is("goes") && script.goes != null) {
                    throw fault(4);
                }
                if (script.kinds.size() == 24) {
                    throw fault(6);
                }
                String kind = token();
                i++;
                script.kinds.add(kind);
                script.numbers.add(clause(kind, script));
                take(";");
            }
            return script;
        }

        private int[] clause(String kind, Script script) throws Fault {
            frosts = kind.equals("frosts");
            switch (kind) {
                case "frosts":
                    script.frosts = sum(0);
                    return null;
                case "goes":
                    script.goes = sum(0);
                    return null;
                case "cow":
                    return two(24, "way", 3);
                case "press":
                    return two(3, "turn", 7);
                case "go":
                    return two(3, "by", 4);
                case "gate":
                    return new int[] {number(0, 24)};
                case "hour":
                    return new int[] {number(1, 60)};
                default:
                    return new int[] {number(0, 39)};
            }
        }

        private int[] two(int most, String word, int secondMost) throws Fault {
            int first = number(0, most);
            take(word);
            return new int[] {first, number(0, secondMost)};
        }

        private static long bounded(long value) {
            return value > 1000000 ? 1000000 : value < -1000000 ? -1000000 : value;
        }

        private Sum sum(int around) throws Fault {
            Sum left = product(around);
            while (is("+ -")) {
                Sum a = left;
                boolean plus = is("+");
                i++;
                Sum b = product(around);
                left = names -> bounded(plus ? a.of(names) + b.of(names) : a.of(names) - b.of(names));
            }
            return left;
        }

        private Sum product(int around) throws Fault {
            Sum left = one(around);
            while (is("* /")) {
                Sum a = left;
                boolean times = is("*");
                i++;
                Sum b = one(around);
                left = names -> bounded(times ? a.of(names) * b.of(names) : quotient(a.of(names), b.of(names)));
            }
            return left;
        }

        private static long quotient(long a, long b) {
            return b == 0 ? 0 : Long.signum(a) * Long.signum(b) * (Math.abs(a) / Math.abs(b));
        }

        private Sum one(int around) throws Fault {
            if (token().matches("[0-9]+")) {
                int value = number(0, 9999);
                return names -> value;
            }
            if (is("hour cell around all number who way")) {
                if (is(frosts ? "who way" : "number")) {
                    throw fault(5);
                }
                String name = token();
                i++;
                return names -> names.get(name);
            }
            if (!is("( - far hedge if")) {
                throw fault(1);
            }
            if (around == 8) {
                throw fault(3);
            }
            String kind = token();
            i++;
            return nested(kind, around + 1);
        }

        private Sum nested(String kind, int around) throws Fault {
            if (kind.equals("(")) {
                Sum in = sum(around);
                take(")");
                return in;
            }
            if (kind.equals("-")) {
                Sum in = one(around);
                return names -> -in.of(names);
            }
            if (kind.equals("hedge")) {
                Sum in = one(around);
                return names -> names.getOrDefault("hedge " + in.of(names), 0);
            }
            if (kind.equals("far")) {
                Sum a = one(around);
                take("of");
                Sum b = one(around);
                return names -> apart(a.of(names), b.of(names));
            }
            Ask ask = either(around);
            take("then");
            Sum yes = sum(around);
            take("else");
            Sum no = sum(around);
            take("end");
            return names -> ask.of(names) ? yes.of(names) : no.of(names);
        }

        private static long apart(long a, long b) {
            if (a < 0 || a > 24 || b < 0 || b > 24) {
                return 0;
            }
            return Math.abs(a / 5 - b / 5) + Math.abs(a % 5 - b % 5);
        }

        private Ask either(int around) throws Fault {
            Ask left = both(around);
            while (is("or")) {
                i++;
                Ask a = left;
                Ask b = both(around);
                left = names -> a.of(names) | b.of(names);
            }
            return left;
        }

        private Ask both(int around) throws Fault {
            Ask left = ask(around);
            while (is("and")) {
                i++;
                Ask a = left;
                Ask b = ask(around);
                left = names -> a.of(names) & b.of(names);
            }
            return left;
        }

        private Ask ask(int around) throws Fault {
            if (is("not")) {
                if (around == 8) {
                    throw fault(3);
                }
                i++;
                Ask in = ask(around + 1);
                return names -> !in.of(names);
            }
            Sum a = sum(around);
            if (!is("< <= > >= = #")) {
                throw fault(1);
            }
            String sign = token();
            i++;
            Sum b = sum(around);
            return names -> compared(sign, Long.compare(a.of(names), b.of(names)));
        }

        private static boolean compared(String sign, int order) {
            return sign.equals("#") ? order != 0
                    : order < 0 ? sign.contains("<") : order > 0 ? sign.contains(">") : sign.contains("=");
        }
    }
}
