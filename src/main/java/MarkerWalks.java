import java.util.Arrays;

/** Games in which two in turn move one marker along a network; the document DOC.md tells what each call promises. */
public final class MarkerWalks {
    private static final int LOW = -1100000000;
    private static final int BEYOND = 1;
    private static final int NONE = 2;
    private static final int STATE = 3;
    private static final int FULL = 4;
    private static final int KIND = 5;
    private static final int MISSING = 6;

    private static final int MOST_POINTS = 10;
    private static final int MOST_LINES = 12;
    private static final int MOST_BYTES = 60;
    private static final int MOST_NUMBERS = 24;
    private static final int MOST_NODES = 300;
    private static final int MOST_PLAYED = 20;
    private static final int SHEETS = 4;
    private static final int RULES = 5;
    private static final int MOST_CODE = 7777;
    private static final int CODE_DIGITS = 4;

    private static final int BOTH_WAYS = 0;
    private static final int ONWARD = 1;
    private static final int BACKWARD = 2;

    private static final int LINES_RULE = 1;
    private static final int POINTS_BY_WAYS = 2;
    private static final int LINES_BY_WAYS = 3;
    private static final int LAST_LOSES = 4;

    private final Network net = new Network();
    private final Network kept = new Network();
    private final Judge judge = new Judge(net);
    private final Planner planner = new Planner(net, judge);
    private final Tree winnersTree = new Tree(net, judge);
    private final Game current = new Game();
    private final Tape tape = new Tape();
    private final Sheet[] sheets = new Sheet[SHEETS];
    private final int[] errors = new int[MISSING + 1];
    private boolean hasImage;
    private int keptZ;

    public MarkerWalks() {
        for (int i = 0; i < SHEETS; i++) {
            sheets[i] = new Sheet();
        }
    }

    // ---- the network

    public int points(int n) {
        if (n < 1 || n > MOST_POINTS) {
            return fail(BEYOND);
        }
        int before = net.size;
        net.clear(n);
        current.on = false;
        return before;
    }

    public int line(int a, int b, int way) {
        if (!net.hasPoint(a) || !net.hasPoint(b) || !isWay(way)) {
            return fail(BEYOND);
        }
        if (a == b) {
            return fail(KIND);
        }
        if (net.lines >= MOST_LINES) {
            return fail(FULL);
        }
        net.join(a, b, way);
        current.on = false;
        return net.lines - 1;
    }

    public int way(int line, int way) {
        if (!net.hasLine(line) || !isWay(way)) {
            return fail(BEYOND);
        }
        int before = net.ways[line];
        net.turn(line, way);
        current.on = false;
        return before;
    }

    public int cut(int line) {
        if (!net.hasLine(line)) {
            return fail(BEYOND);
        }
        net.remove(line);
        current.on = false;
        return net.lines;
    }

    public int ends(int line, int what) {
        if (!net.hasLine(line) || what < 0 || what > 2) {
            return fail(BEYOND);
        }
        if (what == 0) {
            return net.from[line];
        }
        return what == 1 ? net.to[line] : net.ways[line];
    }

    public int at(int point, int what) {
        if (!net.hasPoint(point) || what < 0 || what > 2) {
            return fail(BEYOND);
        }
        return net.degree(point, what);
    }

    public int sides() {
        int zero = net.sideZero();
        return zero < 0 ? fail(NONE) : zero;
    }

    public int pairing(int set, int what) {
        if (set < 0 || set > net.everyPoint() || what < 0 || what > 1) {
            return fail(BEYOND);
        }
        return what == 0 ? net.mostPairs(set) : net.leastPairing(set);
    }

    public int needed() {
        return net.neededPoints();
    }

    public int kernel(int i) {
        if (i < -1) {
            return fail(BEYOND);
        }
        int met = 0;
        for (int set = 1; set <= net.everyPoint(); set++) {
            if (net.isKernel(set)) {
                if (met == i) {
                    return set;
                }
                met++;
            }
        }
        return i == -1 ? met : fail(NONE);
    }

    public int feed(long word, int n) {
        if (n < 1 || n > 8) {
            return fail(BEYOND);
        }
        if (tape.length + n > MOST_BYTES) {
            return fail(FULL);
        }
        tape.add(word, n);
        return tape.length;
    }

    public int network() {
        int fault = tape.fault();
        if (fault < 0) {
            tape.tell(net);
            current.on = false;
        }
        tape.length = 0;
        return fault < 0 ? net.lines : -10 - fault;
    }

    // ---- a game

    public int begin(int rule, int point) {
        if (!isRule(rule) || !net.hasPoint(point)) {
            return fail(BEYOND);
        }
        judge.turnTo(rule);
        current.start(rule, Stand.atFirst(point));
        return judge.wins(current.stand()) ? 1 : 0;
    }

    public int go(int line) {
        if (!current.on || isOver()) {
            return fail(STATE);
        }
        if (!net.hasLine(line)) {
            return fail(BEYOND);
        }
        if ((judge.movesFrom(current.stand()) >> line & 1) == 0) {
            return fail(NONE);
        }
        current.advance(line, judge.behind(current.stand(), line));
        return isOver() ? 1 : 0;
    }

    public int back() {
        if (!current.on) {
            return fail(STATE);
        }
        if (current.made == 0) {
            return fail(NONE);
        }
        current.made--;
        return current.made;
    }

    public int game(int what) {
        if (what < 0 || what > 7) {
            return fail(BEYOND);
        }
        if (!current.on) {
            return fail(STATE);
        }
        int stand = current.stand();
        switch (what) {
            case 0: return current.rule;
            case 1: return Stand.marker(stand);
            case 2: return Stand.met(stand);
            case 3: return Stand.gone(stand);
            case 4: return current.made;
            case 5: return current.made & 1;
            case 6: return isOver() ? 1 : 0;
            default: return judge.winner(stand, current.made & 1);
        }
    }

    public int moved(int i) {
        if (!current.on) {
            return fail(STATE);
        }
        if (i < 0 || i >= current.made) {
            return fail(NONE);
        }
        return current.taken[i];
    }

    public int moves(int what) {
        if (what < 0 || what > 1) {
            return fail(BEYOND);
        }
        if (!current.on) {
            return fail(STATE);
        }
        return what == 0 ? judge.movesFrom(current.stand()) : judge.winningFrom(current.stand());
    }

    public int worth(int what) {
        if (what < 0 || what > 1) {
            return fail(BEYOND);
        }
        if (!current.on) {
            return fail(STATE);
        }
        if (what == 1 && current.rule == LAST_LOSES) {
            return fail(KIND);
        }
        return what == 0 ? judge.lengthFrom(current.stand()) : judge.nimFrom(current.stand());
    }

    public int reach() {
        return current.on ? judge.reachFrom(current.stand()) : fail(STATE);
    }

    public int starts(int rule) {
        if (!isRule(rule)) {
            return fail(BEYOND);
        }
        int set = 0;
        for (int p = 0; p < net.size; p++) {
            judge.turnTo(rule);
            if (judge.wins(Stand.atFirst(p))) {
                set |= 1 << p;
            }
        }
        judge.turnTo(current.rule);
        return set;
    }

    // ---- plans

    public int tells(int code) {
        if (!isCode(code)) {
            return fail(BEYOND);
        }
        if (!current.on) {
            return fail(STATE);
        }
        int line = planner.advice(code, current.stand(), -1);
        return line < 0 ? fail(NONE) : line;
    }

    public int play(int code, int other, int n) {
        if (!isCode(code) || !isCode(other) || n < 1 || n > MOST_PLAYED) {
            return fail(BEYOND);
        }
        if (!current.on) {
            return fail(STATE);
        }
        int before = current.made;
        int open = judge.movesFrom(current.stand());
        for (int i = 0; i < n && open != 0; i++) {
            int plan = (current.made & 1) == 0 ? code : other;
            int line = planner.advice(plan, current.stand(), Planner.least(open));
            current.advance(line, judge.behind(current.stand(), line));
            open = judge.movesFrom(current.stand());
        }
        return current.made - before;
    }

    public int fight(int code, int other, int what) {
        if (!isCode(code) || !isCode(other) || what < 0 || what > 1) {
            return fail(BEYOND);
        }
        if (!current.on) {
            return fail(STATE);
        }
        int before = planner.z;
        int stand = current.stand();
        int made = current.made;
        int open = judge.movesFrom(stand);
        for (int i = 0; i < MOST_LINES && open != 0; i++) {
            int plan = (made & 1) == 0 ? code : other;
            stand = judge.behind(stand, planner.advice(plan, stand, Planner.least(open)));
            made++;
            open = judge.movesFrom(stand);
        }
        planner.z = before;
        return what == 0 ? judge.winner(stand, made & 1) : made - current.made;
    }

    public int tree(int what) {
        if (what < 0 || what > 2) {
            return fail(BEYOND);
        }
        if (!current.on) {
            return fail(STATE);
        }
        if (!winnersTree.build(current.stand())) {
            return fail(FULL);
        }
        if (what == 0) {
            return winnersTree.nodes;
        }
        return what == 1 ? winnersTree.leaves : winnersTree.deepest;
    }

    public int node(int i) {
        if (!current.on) {
            return fail(STATE);
        }
        if (!winnersTree.build(current.stand())) {
            return fail(FULL);
        }
        if (i < 1 || i >= winnersTree.nodes) {
            return fail(NONE);
        }
        return winnersTree.ways[i];
    }

    // ---- sheets

    public int sheet(int sheet, int bits, int n) {
        if (!isSheet(sheet) || bits != 0 && bits != 8 && bits != 16 && bits != 32) {
            return fail(BEYOND);
        }
        if (bits != 0 && n < 0) {
            return fail(STATE);
        }
        if (bits != 0 && n > MOST_NUMBERS) {
            return fail(BEYOND);
        }
        sheets[sheet].renew(bits, bits == 0 ? 0 : n);
        return 1;
    }

    public int put(int sheet, int i, int v) {
        int error = errorOfNumber(sheet, i);
        if (error != 0) {
            return fail(error);
        }
        sheets[sheet].write(i, v);
        return 1;
    }

    public int number(int sheet, int i) {
        int error = errorOfNumber(sheet, i);
        return error != 0 ? fail(error) : sheets[sheet].row[i];
    }

    public int copy(int sheet, int i, int other, int j, int n) {
        if (!isSheet(sheet) || !isSheet(other)) {
            return fail(BEYOND);
        }
        Sheet source = sheets[sheet];
        Sheet target = sheets[other];
        if (source.isMissing() || target.isMissing()) {
            return fail(MISSING);
        }
        if (source.bits != target.bits) {
            return fail(KIND);
        }
        if (!source.hasRun(i, n) || !target.hasRun(j, n)) {
            return fail(BEYOND);
        }
        System.arraycopy(source.row, i, target.row, j, n);
        return n;
    }

    public int degrees(int sheet, int what) {
        if (!isSheet(sheet) || what < 0 || what > 2) {
            return fail(BEYOND);
        }
        if (sheets[sheet].isMissing()) {
            return fail(MISSING);
        }
        int common = Math.min(sheets[sheet].size, net.size);
        for (int p = 0; p < common; p++) {
            sheets[sheet].write(p, net.degree(p, what));
        }
        return common;
    }

    public int walks(int sheet, int what) {
        if (!isSheet(sheet) || what < 0 || what > 1) {
            return fail(BEYOND);
        }
        if (sheets[sheet].isMissing()) {
            return fail(MISSING);
        }
        if (!current.on) {
            return fail(STATE);
        }
        int stand = current.stand();
        int gone = 0;
        for (int i = 0; i < sheets[sheet].size; i++) {
            int line = sheets[sheet].row[i];
            if (!net.hasLine(line) || (judge.movesFrom(stand) >> line & 1) == 0) {
                break;
            }
            stand = judge.behind(stand, line);
            gone++;
        }
        if (what == 0) {
            return gone;
        }
        return judge.wins(stand) ? 1 : 0;
    }

    // ---- draws, images, what is told

    public int seed(int v) {
        int before = planner.z;
        planner.z = v;
        return before;
    }

    public int image() {
        kept.become(net);
        keptZ = planner.z;
        hasImage = true;
        return kept.lines;
    }

    public int restore() {
        if (!hasImage) {
            return fail(NONE);
        }
        net.become(kept);
        planner.z = keptZ;
        current.on = false;
        return net.lines;
    }

    public int count(int what) {
        switch (what) {
            case 0: return net.size;
            case 1: return net.lines;
            case 2: return tape.length;
            case 3: return current.on ? 1 : 0;
            case 4: return planner.z;
            case 5: return sheetsThere();
            default: return fail(BEYOND);
        }
    }

    public int told(int k) {
        return k < BEYOND || k > MISSING ? fail(BEYOND) : errors[k];
    }

    private int fail(int k) {
        errors[k]++;
        return LOW - k;
    }

    private boolean isOver() {
        return judge.movesFrom(current.stand()) == 0;
    }

    private int errorOfNumber(int sheet, int i) {
        if (!isSheet(sheet)) {
            return BEYOND;
        }
        if (sheets[sheet].isMissing()) {
            return MISSING;
        }
        return i < 0 || i >= sheets[sheet].size ? BEYOND : 0;
    }

    private int sheetsThere() {
        int there = 0;
        for (int i = 0; i < SHEETS; i++) {
            if (!sheets[i].isMissing()) {
                there++;
            }
        }
        return there;
    }

    private static boolean isWay(int way) {
        return way >= BOTH_WAYS && way <= BACKWARD;
    }

    private static boolean isRule(int rule) {
        return rule >= 0 && rule < RULES;
    }

    private static boolean isSheet(int sheet) {
        return sheet >= 0 && sheet < SHEETS;
    }

    private static boolean isCode(int code) {
        if (code < 1 || code > MOST_CODE) {
            return false;
        }
        int rest = code;
        for (int i = 0; i < CODE_DIGITS && rest > 0; i++) {
            int digit = rest % 10;
            if (digit < 1 || digit > 7) {
                return false;
            }
            rest /= 10;
        }
        return true;
    }

    /** POINTS and LINES; the sets at each POINT are kept beside the LINES, for games ask for them very often. */
    private static final class Network {
        // 16 places, so that a MARKER of four bits is always one of them
        private static final int ROOM = 16;

        int size = 4;
        int lines;
        final int[] from = new int[MOST_LINES];
        final int[] to = new int[MOST_LINES];
        final int[] ways = new int[MOST_LINES];
        final int[] touching = new int[ROOM];
        final int[] leaving = new int[ROOM];
        final int[] coming = new int[ROOM];
        final int[] beside = new int[ROOM];
        final int[] ahead = new int[ROOM];

        boolean hasPoint(int p) {
            return p >= 0 && p < size;
        }

        boolean hasLine(int i) {
            return i >= 0 && i < lines;
        }

        int everyPoint() {
            return (1 << size) - 1;
        }

        void clear(int n) {
            size = n;
            lines = 0;
            gather();
        }

        void join(int a, int b, int way) {
            if (lines < MOST_LINES) {
                from[lines] = a;
                to[lines] = b;
                ways[lines] = way;
                lines++;
                gather();
            }
        }

        void turn(int line, int way) {
            ways[line] = way;
            gather();
        }

        void remove(int line) {
            int behind = lines - line - 1;
            System.arraycopy(from, line + 1, from, line, behind);
            System.arraycopy(to, line + 1, to, line, behind);
            System.arraycopy(ways, line + 1, ways, line, behind);
            lines--;
            gather();
        }

        void become(Network other) {
            size = other.size;
            lines = other.lines;
            System.arraycopy(other.from, 0, from, 0, MOST_LINES);
            System.arraycopy(other.to, 0, to, 0, MOST_LINES);
            System.arraycopy(other.ways, 0, ways, 0, MOST_LINES);
            gather();
        }

        private void gather() {
            Arrays.fill(touching, 0);
            Arrays.fill(leaving, 0);
            Arrays.fill(coming, 0);
            Arrays.fill(beside, 0);
            Arrays.fill(ahead, 0);
            for (int i = 0; i < lines; i++) {
                touching[from[i]] |= 1 << i;
                touching[to[i]] |= 1 << i;
                beside[from[i]] |= 1 << to[i];
                beside[to[i]] |= 1 << from[i];
                if (ways[i] != BACKWARD) {
                    lead(i, from[i], to[i]);
                }
                if (ways[i] != ONWARD) {
                    lead(i, to[i], from[i]);
                }
            }
        }

        private void lead(int line, int a, int b) {
            leaving[a] |= 1 << line;
            coming[b] |= 1 << line;
            ahead[a] |= 1 << b;
        }

        int degree(int point, int what) {
            if (what == 0) {
                return Integer.bitCount(touching[point]);
            }
            return Integer.bitCount(what == 1 ? leaving[point] : coming[point]);
        }

        int otherEnd(int line, int point) {
            return from[line] ^ to[line] ^ point;
        }

        private int endsAsSet(int line) {
            return 1 << from[line] | 1 << to[line];
        }

        /** The POINTS of side 0, or -1 if a POINT would have to be on both sides. */
        int sideZero() {
            int zero = 0;
            int one = 0;
            for (int p = 0; p < size; p++) {
                if (((zero | one) >> p & 1) == 0) {
                    zero |= 1 << p;
                }
                // a shortest odd round from p has fewer than 2 * size LINES, and each turn goes along two
                for (int turn = 0; turn < size; turn++) {
                    one |= neighbours(zero);
                    zero |= neighbours(one);
                }
            }
            return (zero & one) == 0 ? zero : -1;
        }

        private int neighbours(int set) {
            int found = 0;
            for (int p = 0; p < size; p++) {
                if ((set >> p & 1) != 0) {
                    found |= beside[p];
                }
            }
            return found;
        }

        boolean isKernel(int set) {
            for (int p = 0; p < size; p++) {
                boolean inside = (set >> p & 1) != 0;
                boolean leadsInside = (ahead[p] & set) != 0;
                if (inside == leadsInside) {
                    return false;
                }
            }
            return true;
        }

        int mostPairs(int set) {
            return pairsAmong(lines, set);
        }

        /** How many of the first k LINES a PAIRING of the set can have. */
        private int pairsAmong(int k, int set) {
            if (k < 1 || k > lines || Integer.bitCount(set) < 2) {
                return 0;
            }
            int both = endsAsSet(k - 1);
            if ((set & both) != both) {
                return pairsAmong(k - 1, set);
            }
            int with = 1 + pairsAmong(k - 1, set & ~both);
            // where all POINTS are paired, but one at most, the other half of the search can find no more
            boolean enough = with == Integer.bitCount(set) / 2;
            return enough ? with : Math.max(with, pairsAmong(k - 1, set));
        }

        /** A number is least, if it does without each high bit that it can do without, the highest first. */
        int leastPairing(int set) {
            int chosen = 0;
            int free = set;
            int due = pairsAmong(lines, free);
            for (int i = lines - 1; i >= 0 && due > 0; i--) {
                if (pairsAmong(i, free) < due) {
                    chosen |= 1 << i;
                    free &= ~endsAsSet(i);
                    due--;
                }
            }
            return chosen;
        }

        /** A greatest PAIRING that goes without a POINT is one of the other POINTS. */
        int neededPoints() {
            int most = mostPairs(everyPoint());
            int found = 0;
            for (int p = 0; p < size; p++) {
                if (mostPairs(everyPoint() & ~(1 << p)) < most) {
                    found |= 1 << p;
                }
            }
            return found;
        }
    }

    /** How a GAME stands, as one number, so that thinking ahead makes no objects: MARKER, POINTS MET, LINES GONE. */
    private static final class Stand {
        private static final int MET_PLACE = 4;
        private static final int GONE_PLACE = 14;
        private static final int MARKER_BITS = 15;
        private static final int MET_BITS = 1023;
        private static final int GONE_BITS = 4095;
        private static final int OTHERS_MET = 9;
        private static final int OTHERS_MET_BITS = 511;
        private static final int MARKER_AND_MET_BITS = 8191;

        private Stand() {
        }

        static int atFirst(int point) {
            return point | 1 << point + MET_PLACE;
        }

        static int marker(int stand) {
            return stand & MARKER_BITS;
        }

        static int met(int stand) {
            return stand >>> MET_PLACE & MET_BITS;
        }

        static int gone(int stand) {
            return stand >>> GONE_PLACE & GONE_BITS;
        }

        /** The MARKER's own POINT is always MET, so its bit is left out: what is kept by this needs half the room. */
        static int markerAndMet(int stand) {
            int marker = marker(stand);
            int met = met(stand);
            int below = met & (1 << marker) - 1;
            int above = (met >>> marker + 1) << marker;
            return marker << OTHERS_MET | (below | above) & OTHERS_MET_BITS;
        }

        static int withMarker(int stand, int point) {
            return stand & ~MARKER_BITS | point;
        }

        static int behind(int stand, int line, int point) {
            return stand & ~MARKER_BITS | point | 1 << point + MET_PLACE | 1 << line + GONE_PLACE;
        }
    }

    /** Knows by a RULE which MOVES there are and what a stand is worth; what it found stays till it turns anew. */
    private static final class Judge {
        private static final int LENGTH_PLACE = 1;
        private static final int NIM_PLACE = 5;
        private static final int FOUND_BITS = 9;
        private static final int FOUR_BITS = 15;
        private static final int MOST_TURNS = 1 << 20;
        private static final int NO_WIN = 1000;

        private final Network net;
        // each place holds the turn in which it was found and what was found; the turn spares clearing the row
        private final int[] found = new int[Stand.MARKER_AND_MET_BITS + 1];
        private int turn;
        private int rule;

        Judge(Network net) {
            this.net = net;
        }

        /** To be called for each new start: LINES GONE tell the MARKER's POINT only from one start on. */
        void turnTo(int newRule) {
            rule = newRule;
            turn++;
            if (turn >= MOST_TURNS) {
                Arrays.fill(found, 0);
                turn = 1;
            }
        }

        int movesFrom(int stand) {
            int marker = Stand.marker(stand);
            boolean byWays = rule == POINTS_BY_WAYS || rule == LINES_BY_WAYS;
            int open = byWays ? net.leaving[marker] : net.touching[marker];
            if (overLines()) {
                return open & ~Stand.gone(stand);
            }
            int met = Stand.met(stand);
            int set = 0;
            for (int i = 0; i < net.lines; i++) {
                if ((open >> i & 1) != 0 && (met >> net.otherEnd(i, marker) & 1) == 0) {
                    set |= 1 << i;
                }
            }
            return set;
        }

        private boolean overLines() {
            return rule == LINES_RULE || rule == LINES_BY_WAYS;
        }

        int behind(int stand, int line) {
            return net.hasLine(line) ? Stand.behind(stand, line, net.otherEnd(line, Stand.marker(stand))) : stand;
        }

        boolean wins(int stand) {
            return winsAs(weigh(stand, MOST_LINES));
        }

        int winner(int stand, int player) {
            return wins(stand) ? player : 1 - player;
        }

        int lengthFrom(int stand) {
            return lengthAs(weigh(stand, MOST_LINES));
        }

        int nimFrom(int stand) {
            return nimAs(weigh(stand, MOST_LINES));
        }

        int winningFrom(int stand) {
            int open = movesFrom(stand);
            int set = 0;
            for (int i = 0; i < net.lines; i++) {
                if ((open >> i & 1) != 0 && !winsAs(weigh(behind(stand, i), MOST_LINES))) {
                    set |= 1 << i;
                }
            }
            return set;
        }

        /** Who WINS, LONG and NIM in one; without a MOVE LONG is 0, so what comes ahead of it is told as -1. */
        private int weigh(int stand, int left) {
            int place = overLines() ? Stand.gone(stand) : Stand.markerAndMet(stand);
            if (found[place] >>> FOUND_BITS == turn) {
                return found[place] & (1 << FOUND_BITS) - 1;
            }
            int open = left > 0 ? movesFrom(stand) : 0;
            int soonest = rule == LAST_LOSES && open == 0 ? -1 : NO_WIN;
            int latest = -1;
            int nims = 0;
            for (int i = 0; i < net.lines; i++) {
                if ((open >> i & 1) != 0) {
                    int worth = weigh(behind(stand, i), left - 1);
                    if (!winsAs(worth)) {
                        soonest = Math.min(soonest, lengthAs(worth));
                    }
                    latest = Math.max(latest, lengthAs(worth));
                    nims |= 1 << nimAs(worth);
                }
            }
            int nim = Integer.numberOfTrailingZeros(~nims);
            int value = soonest < NO_WIN ? joined(1, 1 + soonest, nim) : joined(0, 1 + latest, nim);
            found[place] = turn << FOUND_BITS | value;
            return value;
        }

        private static int joined(int wins, int length, int nim) {
            return wins | length << LENGTH_PLACE | nim << NIM_PLACE;
        }

        private static boolean winsAs(int worth) {
            return (worth & 1) != 0;
        }

        private static int lengthAs(int worth) {
            return worth >> LENGTH_PLACE & FOUR_BITS;
        }

        private static int nimAs(int worth) {
            return worth >> NIM_PLACE & FOUR_BITS;
        }

        int reachFrom(int stand) {
            int open = movesFrom(stand);
            int reached = 0;
            for (int i = 0; i < net.lines; i++) {
                if ((open >> i & 1) != 0) {
                    reached |= spread(behind(stand, i));
                }
            }
            return reached;
        }

        /** The MARKER's POINT and all beyond; a shortest way needs no POINT and no LINE twice, so none is taken away. */
        private int spread(int stand) {
            int reached = 1 << Stand.marker(stand);
            for (int round = 1; round < net.size; round++) {
                for (int p = 0; p < net.size; p++) {
                    if ((reached >> p & 1) != 0) {
                        reached |= farEnds(movesFrom(Stand.withMarker(stand, p)), p);
                    }
                }
            }
            return reached;
        }

        private int farEnds(int open, int point) {
            int set = 0;
            for (int i = 0; i < net.lines; i++) {
                if ((open >> i & 1) != 0) {
                    set |= 1 << net.otherEnd(i, point);
                }
            }
            return set;
        }
    }

    /** PLANS and the z by which DRAW goes on. */
    private static final class Planner {
        private static final int GREATEST = 2;
        private static final int BEST = 3;
        private static final int PAIR = 4;
        private static final int DRAW = 5;
        private static final int NARROW = 6;
        private static final int SLOW = 7;

        private final Network net;
        private final Judge judge;
        int z = 1;

        Planner(Network net, Judge judge) {
            this.net = net;
            this.judge = judge;
        }

        /** The LINE that a PLAN tells, or another one if it tells none. */
        int advice(int code, int stand, int otherwise) {
            int rest = code;
            for (int i = 0; i < CODE_DIGITS && rest > 0; i++) {
                int line = simple(rest % 10, stand);
                if (line >= 0) {
                    return line;
                }
                rest /= 10;
            }
            return otherwise;
        }

        private int simple(int digit, int stand) {
            int open = judge.movesFrom(stand);
            switch (digit) {
                case GREATEST: return greatest(open);
                case BEST: return least(judge.winningFrom(stand));
                case PAIR: return least(open & pairAtMarker(stand));
                case DRAW: return drawn(open);
                case NARROW: return narrowest(open, stand);
                case SLOW: return slowest(open, stand);
                default: return least(open);
            }
        }

        static int least(int set) {
            return set == 0 ? -1 : Integer.numberOfTrailingZeros(set);
        }

        private static int greatest(int set) {
            return 31 - Integer.numberOfLeadingZeros(set);
        }

        private int pairAtMarker(int stand) {
            int marker = Stand.marker(stand);
            int free = net.everyPoint() & ~Stand.met(stand) | 1 << marker;
            return net.leastPairing(free) & net.touching[marker];
        }

        private int drawn(int open) {
            int many = Integer.bitCount(open);
            if (many == 0) {
                return -1;
            }
            z = z * 1103515245 + 12345;
            int rest = open;
            for (int skip = (z >>> 8) % many; skip > 0; skip--) {
                rest &= rest - 1;
            }
            return least(rest);
        }

        private int narrowest(int open, int stand) {
            int chosen = -1;
            int fewest = MOST_LINES + 1;
            for (int i = 0; i < net.lines; i++) {
                if ((open >> i & 1) != 0) {
                    int many = Integer.bitCount(judge.movesFrom(judge.behind(stand, i)));
                    if (many < fewest) {
                        fewest = many;
                        chosen = i;
                    }
                }
            }
            return chosen;
        }

        private int slowest(int open, int stand) {
            int chosen = -1;
            int longest = -1;
            for (int i = 0; i < net.lines; i++) {
                if ((open >> i & 1) != 0) {
                    int length = judge.lengthFrom(judge.behind(stand, i));
                    if (length > longest) {
                        longest = length;
                        chosen = i;
                    }
                }
            }
            return chosen;
        }
    }

    /** THE TREE of who is to WIN, built anew for each question. */
    private static final class Tree {
        private final Network net;
        private final Judge judge;
        final int[] ways = new int[MOST_NODES];
        int nodes;
        int leaves;
        int deepest;
        private boolean overfull;

        Tree(Network net, Judge judge) {
            this.net = net;
            this.judge = judge;
        }

        /** False if there are more NODES than it may have. */
        boolean build(int stand) {
            nodes = 0;
            leaves = 0;
            deepest = 0;
            overfull = false;
            grow(stand, -1, 0);
            return !overfull;
        }

        private void grow(int stand, int line, int depth) {
            if (nodes >= MOST_NODES || depth > MOST_LINES) {
                overfull = true;
                return;
            }
            ways[nodes] = line;
            nodes++;
            deepest = Math.max(deepest, depth);
            boolean winnerMoves = judge.wins(stand);
            int next = winnerMoves ? Integer.lowestOneBit(judge.winningFrom(stand)) : judge.movesFrom(stand);
            if (next == 0) {
                leaves++;
            }
            for (int i = 0; i < net.lines && !overfull; i++) {
                if ((next >> i & 1) != 0) {
                    grow(judge.behind(stand, i), i, depth + 1);
                }
            }
        }
    }

    /** THE GAME's MOVES and how it stood behind each, so that taking back needs no reckoning. */
    private static final class Game {
        boolean on;
        int rule;
        int made;
        final int[] taken = new int[MOST_LINES];
        private final int[] stands = new int[MOST_LINES + 1];

        void start(int newRule, int stand) {
            on = true;
            rule = newRule;
            made = 0;
            stands[0] = stand;
        }

        int stand() {
            return stands[made];
        }

        void advance(int line, int stand) {
            if (made < MOST_LINES) {
                taken[made] = line;
                made++;
                stands[made] = stand;
            }
        }
    }

    /** THE TAPE and the TEXT on it: each LINE has three bytes and a comma, so a byte's place tells its part. */
    private static final class Tape {
        private static final int PITCH = 4;

        int length;
        private final int[] bytes = new int[MOST_BYTES];

        void add(long word, int n) {
            for (int i = 0; i < n && length < MOST_BYTES; i++) {
                bytes[length] = (int) (word >>> 8 * i) & 255;
                length++;
            }
        }

        /** The FAULT's place, or -1. */
        int fault() {
            for (int i = 0; i < length; i++) {
                if (!fits(i)) {
                    return i;
                }
            }
            return length % PITCH == PITCH - 1 ? -1 : length;
        }

        private boolean fits(int place) {
            int sign = bytes[place];
            switch (place % PITCH) {
                case 0: return isLetter(sign) && place / PITCH < MOST_LINES;
                case 1: return sign == '-' || sign == '>' || sign == '<';
                case 2: return isLetter(sign) && sign != bytes[place - 2];
                default: return sign == ',';
            }
        }

        private static boolean isLetter(int sign) {
            return sign >= 'a' && sign <= 'j';
        }

        /** Only for a TEXT without a FAULT. */
        void tell(Network net) {
            int greatest = 'a';
            for (int i = 0; i < length; i += 2) {
                if (isLetter(bytes[i])) {
                    greatest = Math.max(greatest, bytes[i]);
                }
            }
            net.clear(greatest - 'a' + 1);
            for (int i = 0; i + 2 < length; i += PITCH) {
                net.join(bytes[i] - 'a', bytes[i + 2] - 'a', wayOf(bytes[i + 1]));
            }
        }

        private static int wayOf(int sign) {
            if (sign == '>') {
                return ONWARD;
            }
            return sign == '<' ? BACKWARD : BOTH_WAYS;
        }
    }

    /** A row of numbers; one of 0 bits is MISSING. */
    private static final class Sheet {
        int bits;
        int size;
        final int[] row = new int[MOST_NUMBERS];

        boolean isMissing() {
            return bits == 0;
        }

        void renew(int newBits, int n) {
            bits = newBits;
            size = n;
            Arrays.fill(row, 0);
        }

        /** Only the lowest bits stay, and the highest of these is the sign, as it is in a number of 32 bits. */
        void write(int i, int v) {
            int lost = 32 - bits;
            row[i] = v << lost >> lost;
        }

        boolean hasRun(int i, int n) {
            return n >= 0 && i >= 0 && n <= size && i <= size - n;
        }
    }
}
