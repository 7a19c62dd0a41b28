import java.util.ArrayList;
import java.util.HashMap;
import java.util.List;
import java.util.Map;
import java.util.Random;
import java.util.TreeSet;

/** Random runs of calls, each answer held against a second, slow telling of the document. */
public final class OracleRuns {
    private static final int RUNS = 3000;
    private static final int CALLS = 512;

    public static void main(String[] args) {
        int wrong = 0;
        for (int run = 0; run < RUNS && wrong < 20; run++) {
            Caller caller = new Caller(new Random(977L * run + 5));
            for (int i = 0; i < CALLS && wrong < 20; i++) {
                String fault = caller.call();
                if (fault != null) {
                    wrong++;
                    System.out.println("run " + run + ", call " + i + ": " + fault);
                    for (String row : caller.latest()) {
                        System.out.println("    " + row);
                    }
                    break;
                }
            }
        }
        System.out.println(wrong == 0 ? "all answers are as the oracle tells" : wrong + " runs go wrong");
        if (wrong != 0) {
            System.exit(1);
        }
    }

    /** Makes one call after another, with arguments that are mostly good ones. */
    private static final class Caller {
        private final Random random;
        private final MarkerWalks real = new MarkerWalks();
        private final Oracle oracle = new Oracle();
        private final List<String> rows = new ArrayList<>();
        private final int[] told = new int[7];
        private int toBuild;

        Caller(Random random) {
            this.random = random;
            toBuild = random.nextInt(13);
        }

        List<String> latest() {
            return rows.subList(Math.max(0, rows.size() - 40), rows.size());
        }

        String call() {
            if (toBuild > 0) {
                toBuild--;
                return lineCall();
            }
            int kind = random.nextInt(100);
            if (kind < 3) {
                return textCall();
            }
            if (kind < 6) {
                return lineCall();
            }
            if (!oracle.on && kind < 40) {
                return beginCall();
            }
            return anyCall(random.nextInt(42));
        }

        private int around(int low, int high) {
            int die = random.nextInt(30);
            if (die == 0) {
                return low - 1;
            }
            if (die == 1) {
                return high + 1;
            }
            if (die == 2 && random.nextInt(4) == 0) {
                int[] odd = {Integer.MIN_VALUE, Integer.MAX_VALUE, -1, 31, 32, 33, 64, random.nextInt()};
                return odd[random.nextInt(odd.length)];
            }
            return high < low ? low : low + random.nextInt(high - low + 1);
        }

        private int code() {
            if (random.nextInt(15) == 0) {
                int[] odd = {0, -1, 8, 9, 10, 18, 81, 70, 7778, 8777, 11111, 77777, 1023, -7, Integer.MIN_VALUE};
                return odd[random.nextInt(odd.length)];
            }
            int made = 0;
            for (int i = random.nextInt(4); i >= 0; i--) {
                made = made * 10 + 1 + random.nextInt(7);
            }
            return made;
        }

        private String lineCall() {
            int a = around(0, oracle.size - 1);
            int b = around(0, oracle.size - 1);
            int way = random.nextInt(3) == 0 ? 0 : around(0, 2);
            return held("line(" + a + ", " + b + ", " + way + ")", real.line(a, b, way), oracle.line(a, b, way));
        }

        private String beginCall() {
            int rule = around(0, 4);
            int point = around(0, oracle.size - 1);
            return held("begin(" + rule + ", " + point + ")", real.begin(rule, point), oracle.begin(rule, point));
        }

        /** Feeds a whole text, with a fault now and then, and asks for the network. */
        private String textCall() {
            StringBuilder text = new StringBuilder();
            int lines = random.nextInt(8) == 0 ? 13 : random.nextInt(13);
            int letters = 2 + random.nextInt(9);
            for (int i = 0; i < lines; i++) {
                if (i > 0) {
                    text.append(',');
                }
                int a = random.nextInt(letters);
                int b = random.nextInt(40) == 0 ? a : (a + 1 + random.nextInt(letters - 1)) % letters;
                text.append((char) ('a' + a)).append("-<>".charAt(random.nextInt(3))).append((char) ('a' + b));
            }
            int harm = random.nextInt(8);
            if (harm == 0 && text.length() > 0) {
                text.setCharAt(random.nextInt(text.length()), (char) random.nextInt(256));
            } else if (harm == 1 && text.length() > 0) {
                text.setLength(random.nextInt(text.length()));
            } else if (harm == 2) {
                text.append("akA,`-".charAt(random.nextInt(6)));
            }
            for (int i = 0; i < text.length(); i += 8) {
                int n = Math.min(8, text.length() - i);
                long word = random.nextLong();
                for (int j = n - 1; j >= 0; j--) {
                    word = word << 8 | text.charAt(i + j);
                }
                if (n < 8) {
                    word |= random.nextLong() << 8 * n;
                }
                String fault = held("feed(" + word + ", " + n + ")", real.feed(word, n), oracle.feed(word, n));
                if (fault != null) {
                    return fault;
                }
            }
            return held("network()", real.network(), oracle.network());
        }

        private String anyCall(int kind) {
            int a = around(0, 3);
            int what = around(0, 1);
            int what3 = around(0, 2);
            int line = around(0, oracle.lines.size() - 1);
            int point = around(0, oracle.size - 1);
            switch (kind) {
                case 0:
                    if (random.nextInt(3) != 0) {
                        return held("needed()", real.needed(), oracle.needed());
                    }
                    int n = around(1, 10);
                    String fault = held("points(" + n + ")", real.points(n), oracle.points(n));
                    toBuild = random.nextInt(13);
                    return fault;
                case 1: return held("way(" + line + ", " + what3 + ")", real.way(line, what3), oracle.way(line, what3));
                case 2: return held("cut(" + line + ")", real.cut(line), oracle.cut(line));
                case 3: return held("ends(" + line + ", " + what3 + ")", real.ends(line, what3), oracle.ends(line, what3));
                case 4: return held("at(" + point + ", " + what3 + ")", real.at(point, what3), oracle.at(point, what3));
                case 5: return held("sides()", real.sides(), oracle.sides());
                case 6:
                case 7:
                    int set = around(0, (1 << oracle.size) - 1);
                    return held("pairing(" + set + ", " + what + ")", real.pairing(set, what), oracle.pairing(set, what));
                case 8: return held("needed()", real.needed(), oracle.needed());
                case 9:
                    int k = around(-1, 5);
                    return held("kernel(" + k + ")", real.kernel(k), oracle.kernel(k));
                case 10:
                    long word = random.nextLong();
                    int bytes = around(1, 8);
                    return held("feed(" + word + ", " + bytes + ")", real.feed(word, bytes), oracle.feed(word, bytes));
                case 11: return held("network()", real.network(), oracle.network());
                case 12: return beginCall();
                case 13:
                case 14: return goCall(line);
                case 15: return held("back()", real.back(), oracle.back());
                case 16:
                case 17:
                    int asked = around(0, 7);
                    return held("game(" + asked + ")", real.game(asked), oracle.game(asked));
                case 18:
                    int i = around(0, 5);
                    return held("moved(" + i + ")", real.moved(i), oracle.moved(i));
                case 19: return held("moves(" + what + ")", real.moves(what), oracle.moves(what));
                case 20: return held("worth(" + what + ")", real.worth(what), oracle.worth(what));
                case 21: return held("reach()", real.reach(), oracle.reach());
                case 22:
                    int rule = around(0, 4);
                    return held("starts(" + rule + ")", real.starts(rule), oracle.starts(rule));
                case 23:
                case 24:
                case 25:
                    int code = code();
                    return held("tells(" + code + ")", real.tells(code), oracle.tells(code));
                case 26: return playCall();
                case 27:
                case 28: return fightCall(what);
                case 29: return held("tree(" + what3 + ")", real.tree(what3), oracle.tree(what3));
                case 30:
                    int node = around(0, 12);
                    return held("node(" + node + ")", real.node(node), oracle.node(node));
                default: return sheetCall(kind, a, what, what3);
            }
        }

        private String goCall(int line) {
            int chosen = line;
            int open = oracle.on ? oracle.movesOf(oracle.stand()) : 0;
            if (open != 0 && random.nextInt(3) != 0) {
                List<Integer> all = Oracle.listed(open);
                chosen = all.get(random.nextInt(all.size()));
            }
            return held("go(" + chosen + ")", real.go(chosen), oracle.go(chosen));
        }

        private String playCall() {
            int code = code();
            int other = code();
            int n = random.nextInt(3) == 0 ? around(1, 20) : around(1, 2);
            return held("play(" + code + ", " + other + ", " + n + ")", real.play(code, other, n), oracle.play(code, other, n));
        }

        private String fightCall(int what) {
            int code = code();
            int other = code();
            return held("fight(" + code + ", " + other + ", " + what + ")", real.fight(code, other, what), oracle.fight(code, other, what));
        }

        private String sheetCall(int kind, int a, int what, int what3) {
            int i = around(0, 12);
            int v = random.nextInt(3) == 0 ? random.nextInt() : around(0, 11);
            switch (kind) {
                case 31:
                    int[] sorts = {8, 16, 32, 8, 16, 32, 0, 7, -8, 64};
                    int bits = sorts[random.nextInt(sorts.length)];
                    int n = around(0, 24);
                    return held("sheet(" + a + ", " + bits + ", " + n + ")", real.sheet(a, bits, n), oracle.sheet(a, bits, n));
                case 32:
                case 33: return held("put(" + a + ", " + i + ", " + v + ")", real.put(a, i, v), oracle.put(a, i, v));
                case 34: return unheldNumber(a, i);
                case 35:
                    int b = around(0, 3);
                    int j = around(0, 12);
                    int many = around(0, 8);
                    return held("copy(" + a + ", " + i + ", " + b + ", " + j + ", " + many + ")", real.copy(a, i, b, j, many), oracle.copy(a, i, b, j, many));
                case 36: return held("degrees(" + a + ", " + what3 + ")", real.degrees(a, what3), oracle.degrees(a, what3));
                case 37: return held("walks(" + a + ", " + what + ")", real.walks(a, what), oracle.walks(a, what));
                case 38: return restCall(v);
                case 39: return random.nextInt(2) == 0 ? held("image()", real.image(), oracle.image()) : held("count(4)", real.count(4), oracle.z);
                case 40:
                    int asked = around(0, 5);
                    return asked == 4 ? null : held("count(" + asked + ")", real.count(asked), oracle.count(asked));
                default: return toldCall();
            }
        }

        /** A number may look like an ERROR, so it is not counted by its looks. */
        private String unheldNumber(int a, int i) {
            int got = real.number(a, i);
            int[] want = oracle.number(a, i);
            if (want[0] != 0) {
                return held("number(" + a + ", " + i + ")", got, want[1]);
            }
            rows.add("number(" + a + ", " + i + ") = " + got);
            return got == want[1] ? null : "number(" + a + ", " + i + ") answered " + got + ", due is " + want[1];
        }

        private String restCall(int v) {
            if (random.nextInt(4) != 0) {
                int got = real.seed(v);
                int want = oracle.z;
                oracle.z = v;
                rows.add("seed(" + v + ") = " + got);
                return got == want ? null : "seed(" + v + ") answered " + got + ", due is " + want;
            }
            return held("restore()", real.restore(), oracle.restore());
        }

        private String toldCall() {
            int k = around(1, 6);
            if (k < 1 || k > 6) {
                return held("told(" + k + ")", real.told(k), Oracle.BEYOND);
            }
            return held("told(" + k + ")", real.told(k), told[k]);
        }

        private String held(String call, int got, int want) {
            rows.add(call + " = " + got);
            int k = Oracle.LOW - want;
            if (want < Oracle.LOW && k <= 6 && !call.equals("count(4)")) {
                told[k]++;
            }
            return got == want ? null : call + " answered " + got + ", due is " + want;
        }
    }

    /** The document, told plainly: sets are searched whole, games are searched with what was met and gone in full. */
    private static final class Oracle {
        static final int LOW = -1100000000;
        static final int BEYOND = LOW - 1;
        static final int NONE = LOW - 2;
        static final int STATE = LOW - 3;
        static final int FULL = LOW - 4;
        static final int KIND = LOW - 5;
        static final int MISSING = LOW - 6;

        record Line(int a, int b, int way) {
            boolean leads(int from, int to) {
                return way != 2 && a == from && b == to || way != 1 && b == from && a == to;
            }

            boolean joins(int p, int q) {
                return a == p && b == q || a == q && b == p;
            }
        }

        record Stand(int marker, int met, int gone) {
        }

        record Worth(boolean wins, int length, int nim) {
        }

        int size = 4;
        List<Line> lines = new ArrayList<>();
        int z = 1;
        boolean on;
        int rule;
        final List<Stand> stands = new ArrayList<>();
        final List<Integer> taken = new ArrayList<>();
        final Map<Stand, Worth> known = new HashMap<>();
        final List<Integer> tape = new ArrayList<>();
        final int[][] sheets = new int[4][];
        final int[] bits = new int[4];
        int keptSize;
        List<Line> keptLines;
        int keptZ;

        static List<Integer> listed(int set) {
            List<Integer> all = new ArrayList<>();
            for (int i = 0; i < 31; i++) {
                if ((set & 1 << i) != 0) {
                    all.add(i);
                }
            }
            return all;
        }

        private boolean isPoint(int p) {
            return 0 <= p && p <= size - 1;
        }

        private boolean isLine(int i) {
            return 0 <= i && i <= lines.size() - 1;
        }

        private static boolean in(int v, int low, int high) {
            return low <= v && v <= high;
        }

        int points(int n) {
            if (!in(n, 1, 10)) {
                return BEYOND;
            }
            int old = size;
            size = n;
            lines = new ArrayList<>();
            on = false;
            return old;
        }

        int line(int a, int b, int way) {
            if (!isPoint(a) || !isPoint(b) || !in(way, 0, 2)) {
                return BEYOND;
            }
            if (a == b) {
                return KIND;
            }
            if (lines.size() == 12) {
                return FULL;
            }
            lines.add(new Line(a, b, way));
            on = false;
            return lines.size() - 1;
        }

        int way(int line, int way) {
            if (!isLine(line) || !in(way, 0, 2)) {
                return BEYOND;
            }
            Line old = lines.get(line);
            lines.set(line, new Line(old.a, old.b, way));
            on = false;
            return old.way;
        }

        int cut(int line) {
            if (!isLine(line)) {
                return BEYOND;
            }
            lines.remove(line);
            on = false;
            return lines.size();
        }

        int ends(int line, int what) {
            if (!isLine(line) || !in(what, 0, 2)) {
                return BEYOND;
            }
            Line l = lines.get(line);
            return new int[] {l.a, l.b, l.way}[what];
        }

        int at(int point, int what) {
            if (!isPoint(point) || !in(what, 0, 2)) {
                return BEYOND;
            }
            int many = 0;
            for (Line l : lines) {
                for (int q = 0; q < size; q++) {
                    if (what == 0 && l.joins(point, q) || what == 1 && l.leads(point, q) || what == 2 && l.leads(q, point)) {
                        many++;
                    }
                }
            }
            return many;
        }

        int sides() {
            Integer[] side = new Integer[size];
            for (int p = 0; p < size; p++) {
                if (side[p] == null && !painted(side, p, 0)) {
                    return NONE;
                }
            }
            int set = 0;
            for (int p = 0; p < size; p++) {
                set += side[p] == 0 ? 1 << p : 0;
            }
            return set;
        }

        private boolean painted(Integer[] side, int p, int colour) {
            if (side[p] != null) {
                return side[p] == colour;
            }
            side[p] = colour;
            for (Line l : lines) {
                for (int q = 0; q < size; q++) {
                    if (l.joins(p, q) && !painted(side, q, 1 - colour)) {
                        return false;
                    }
                }
            }
            return true;
        }

        private boolean isPairing(int pairs, int set) {
            int used = 0;
            for (int i : listed(pairs)) {
                int both = 1 << lines.get(i).a | 1 << lines.get(i).b;
                if ((both & ~set) != 0 || (both & used) != 0) {
                    return false;
                }
                used |= both;
            }
            return true;
        }

        private List<Integer> greatestPairings(int set) {
            List<Integer> best = new ArrayList<>();
            int most = -1;
            for (int pairs = 0; pairs < 1 << lines.size(); pairs++) {
                int many = Integer.bitCount(pairs);
                if (many >= most && isPairing(pairs, set)) {
                    if (many > most) {
                        best.clear();
                    }
                    most = many;
                    best.add(pairs);
                }
            }
            return best;
        }

        int pairing(int set, int what) {
            if (!in(set, 0, (1 << size) - 1) || !in(what, 0, 1)) {
                return BEYOND;
            }
            int least = greatestPairings(set).get(0);
            return what == 0 ? Integer.bitCount(least) : least;
        }

        int needed() {
            int always = (1 << size) - 1;
            for (int pairs : greatestPairings((1 << size) - 1)) {
                int ends = 0;
                for (int i : listed(pairs)) {
                    ends |= 1 << lines.get(i).a | 1 << lines.get(i).b;
                }
                always &= ends;
            }
            return always;
        }

        private boolean anyLeads(int p, int q) {
            for (Line l : lines) {
                if (l.leads(p, q)) {
                    return true;
                }
            }
            return false;
        }

        private boolean isKernel(int set) {
            for (int p = 0; p < size; p++) {
                boolean leads = false;
                for (int q : listed(set)) {
                    leads |= anyLeads(p, q);
                }
                if (leads == listed(set).contains(p)) {
                    return false;
                }
            }
            return true;
        }

        int kernel(int i) {
            if (i < -1) {
                return BEYOND;
            }
            List<Integer> all = new ArrayList<>();
            for (int set = 0; set < 1 << size; set++) {
                if (isKernel(set)) {
                    all.add(set);
                }
            }
            if (i == -1) {
                return all.size();
            }
            return i < all.size() ? all.get(i) : NONE;
        }

        int feed(long word, int n) {
            if (!in(n, 1, 8)) {
                return BEYOND;
            }
            if (tape.size() + n > 60) {
                return FULL;
            }
            for (int i = 0; i < n; i++) {
                tape.add((int) (word >> 8 * i & 0xFF));
            }
            return tape.size();
        }

        int network() {
            StringBuilder text = new StringBuilder();
            for (int b : tape) {
                text.append((char) b);
            }
            tape.clear();
            if (isText(text.toString())) {
                tellText(text.toString());
                return lines.size();
            }
            int good = 0;
            while (good < text.length() && goesOn(text.substring(0, good + 1))) {
                good++;
            }
            return -10 - good;
        }

        private static boolean isText(String text) {
            if (!text.matches("[a-j][-<>][a-j](,[a-j][-<>][a-j]){0,11}")) {
                return false;
            }
            for (String l : text.split(",")) {
                if (l.charAt(0) == l.charAt(2)) {
                    return false;
                }
            }
            return true;
        }

        /** A beginning goes on to a TEXT, if some ending of at most four bytes makes it one; but a comma behind the 12th LINE stays. */
        private static boolean goesOn(String start) {
            String[] endings = {"", "b", "c", "-b", "-c", "a-b"};
            for (String ending : endings) {
                if (isText(start + ending)) {
                    return true;
                }
            }
            return start.endsWith(",") && isText(start.substring(0, start.length() - 1));
        }

        private void tellText(String text) {
            lines = new ArrayList<>();
            size = 0;
            for (String l : text.split(",")) {
                int a = l.charAt(0) - 'a';
                int b = l.charAt(2) - 'a';
                lines.add(new Line(a, b, "-><".indexOf(l.charAt(1))));
                size = Math.max(size, Math.max(a, b) + 1);
            }
            on = false;
        }

        Stand stand() {
            return stands.get(stands.size() - 1);
        }

        private Stand behind(Stand s, int line) {
            Line l = lines.get(line);
            int end = l.a == s.marker ? l.b : l.a;
            return new Stand(end, s.met | 1 << end, s.gone | 1 << line);
        }

        int movesOf(Stand s) {
            int set = 0;
            for (int i = 0; i < lines.size(); i++) {
                Line l = lines.get(i);
                for (int q = 0; q < size; q++) {
                    boolean way = rule == 2 || rule == 3 ? l.leads(s.marker, q) : l.joins(s.marker, q);
                    boolean free = rule == 1 || rule == 3 ? (s.gone & 1 << i) == 0 : (s.met & 1 << q) == 0;
                    if (way && free) {
                        set |= 1 << i;
                    }
                }
            }
            return set;
        }

        private Worth worthOf(Stand s) {
            Worth old = known.get(s);
            if (old != null) {
                return old;
            }
            List<Integer> winning = new ArrayList<>();
            List<Integer> all = new ArrayList<>();
            TreeSet<Integer> nims = new TreeSet<>();
            for (int i : listed(movesOf(s))) {
                Worth w = worthOf(behind(s, i));
                all.add(w.length);
                if (!w.wins) {
                    winning.add(w.length);
                }
                nims.add(w.nim);
            }
            int nim = 0;
            while (nims.contains(nim)) {
                nim++;
            }
            Worth found;
            if (all.isEmpty()) {
                found = new Worth(rule == 4, 0, 0);
            } else if (winning.isEmpty()) {
                found = new Worth(false, 1 + all.stream().max(Integer::compare).get(), nim);
            } else {
                found = new Worth(true, 1 + winning.stream().min(Integer::compare).get(), nim);
            }
            known.put(s, found);
            return found;
        }

        int begin(int newRule, int point) {
            if (!in(newRule, 0, 4) || !isPoint(point)) {
                return BEYOND;
            }
            on = true;
            rule = newRule;
            stands.clear();
            taken.clear();
            known.clear();
            stands.add(new Stand(point, 1 << point, 0));
            return worthOf(stand()).wins ? 1 : 0;
        }

        int go(int line) {
            if (!on || movesOf(stand()) == 0) {
                return STATE;
            }
            if (!isLine(line)) {
                return BEYOND;
            }
            if (!listed(movesOf(stand())).contains(line)) {
                return NONE;
            }
            stands.add(behind(stand(), line));
            taken.add(line);
            return movesOf(stand()) == 0 ? 1 : 0;
        }

        int back() {
            if (!on) {
                return STATE;
            }
            if (taken.isEmpty()) {
                return NONE;
            }
            taken.remove(taken.size() - 1);
            stands.remove(stands.size() - 1);
            return taken.size();
        }

        int game(int what) {
            if (!in(what, 0, 7)) {
                return BEYOND;
            }
            if (!on) {
                return STATE;
            }
            int player = taken.size() % 2;
            int over = movesOf(stand()) == 0 ? 1 : 0;
            int winner = worthOf(stand()).wins ? player : 1 - player;
            return new int[] {rule, stand().marker, stand().met, stand().gone, taken.size(), player, over, winner}[what];
        }

        int moved(int i) {
            if (!on) {
                return STATE;
            }
            return in(i, 0, taken.size() - 1) ? taken.get(i) : NONE;
        }

        private int winningOf(Stand s) {
            int set = 0;
            for (int i : listed(movesOf(s))) {
                set |= worthOf(behind(s, i)).wins ? 0 : 1 << i;
            }
            return set;
        }

        int moves(int what) {
            if (!in(what, 0, 1)) {
                return BEYOND;
            }
            if (!on) {
                return STATE;
            }
            return what == 0 ? movesOf(stand()) : winningOf(stand());
        }

        int worth(int what) {
            if (!in(what, 0, 1)) {
                return BEYOND;
            }
            if (!on) {
                return STATE;
            }
            if (what == 1) {
                return rule == 4 ? KIND : worthOf(stand()).nim;
            }
            return worthOf(stand()).length;
        }

        int reach() {
            if (!on) {
                return STATE;
            }
            Map<Stand, Integer> seen = new HashMap<>();
            return reachOf(stand(), seen);
        }

        private int reachOf(Stand s, Map<Stand, Integer> seen) {
            Integer old = seen.get(s);
            if (old != null) {
                return old;
            }
            int set = 0;
            for (int i : listed(movesOf(s))) {
                Stand next = behind(s, i);
                set |= 1 << next.marker | reachOf(next, seen);
            }
            seen.put(s, set);
            return set;
        }

        int starts(int asked) {
            if (!in(asked, 0, 4)) {
                return BEYOND;
            }
            Oracle other = new Oracle();
            other.size = size;
            other.lines = lines;
            int set = 0;
            for (int p = 0; p < size; p++) {
                set |= other.begin(asked, p) << p;
            }
            return set;
        }

        private static boolean isCode(int code) {
            return Integer.toString(code).matches("[1-7]{1,4}");
        }

        private int told(int code, Stand s) {
            String digits = Integer.toString(code);
            for (int i = digits.length() - 1; i >= 0; i--) {
                int line = simple(digits.charAt(i) - '0', s);
                if (line >= 0) {
                    return line;
                }
            }
            return -1;
        }

        private int simple(int plan, Stand s) {
            List<Integer> open = listed(movesOf(s));
            if (open.isEmpty()) {
                return -1;
            }
            int chosen = -1;
            switch (plan) {
                case 1: return open.get(0);
                case 2: return open.get(open.size() - 1);
                case 3: return winningOf(s) == 0 ? -1 : listed(winningOf(s)).get(0);
                case 4:
                    int free = 1 << s.marker;
                    for (int p = 0; p < size; p++) {
                        free |= (s.met & 1 << p) == 0 ? 1 << p : 0;
                    }
                    for (int i : listed(greatestPairings(free).get(0))) {
                        boolean there = lines.get(i).a == s.marker || lines.get(i).b == s.marker;
                        chosen = there && open.contains(i) ? i : chosen;
                    }
                    return chosen;
                case 5:
                    z = z * 1103515245 + 12345;
                    return open.get((z >>> 8) % open.size());
                case 6:
                    for (int i : open) {
                        if (chosen < 0 || moveCount(s, i) < moveCount(s, chosen)) {
                            chosen = i;
                        }
                    }
                    return chosen;
                default:
                    for (int i : open) {
                        if (chosen < 0 || worthOf(behind(s, i)).length > worthOf(behind(s, chosen)).length) {
                            chosen = i;
                        }
                    }
                    return chosen;
            }
        }

        private int moveCount(Stand s, int line) {
            return Integer.bitCount(movesOf(behind(s, line)));
        }

        int tells(int code) {
            if (!isCode(code)) {
                return BEYOND;
            }
            if (!on) {
                return STATE;
            }
            int line = told(code, stand());
            return line < 0 ? NONE : line;
        }

        int play(int code, int other, int n) {
            if (!isCode(code) || !isCode(other) || !in(n, 1, 20)) {
                return BEYOND;
            }
            if (!on) {
                return STATE;
            }
            int played = 0;
            while (played < n && movesOf(stand()) != 0) {
                int line = told(taken.size() % 2 == 0 ? code : other, stand());
                go(line < 0 ? simple(1, stand()) : line);
                played++;
            }
            return played;
        }

        int fight(int code, int other, int what) {
            if (!isCode(code) || !isCode(other) || !in(what, 0, 1)) {
                return BEYOND;
            }
            if (!on) {
                return STATE;
            }
            int oldZ = z;
            int many = play(code, other, 20);
            int winner = game(7);
            for (int i = 0; i < many; i++) {
                back();
            }
            z = oldZ;
            return what == 0 ? winner : many;
        }

        private static final class Node {
            final int line;
            final List<Node> children = new ArrayList<>();

            Node(int line) {
                this.line = line;
            }

            int depth() {
                int most = 0;
                for (Node c : children) {
                    most = Math.max(most, 1 + c.depth());
                }
                return most;
            }

            void list(List<Node> all) {
                all.add(this);
                for (Node c : children) {
                    c.list(all);
                }
            }
        }

        private Node grown(Stand s, int line, int[] left) {
            Node node = new Node(line);
            left[0]--;
            int next = worthOf(s).wins ? Integer.lowestOneBit(winningOf(s)) : movesOf(s);
            for (int i : listed(next)) {
                if (left[0] >= 0) {
                    node.children.add(grown(behind(s, i), i, left));
                }
            }
            return node;
        }

        private List<Node> nodes() {
            List<Node> all = new ArrayList<>();
            grown(stand(), -1, new int[] {400}).list(all);
            return all;
        }

        int tree(int what) {
            if (!in(what, 0, 2)) {
                return BEYOND;
            }
            if (!on) {
                return STATE;
            }
            List<Node> all = nodes();
            if (all.size() > 300) {
                return FULL;
            }
            int leaves = 0;
            for (Node n : all) {
                leaves += n.children.isEmpty() ? 1 : 0;
            }
            return new int[] {all.size(), leaves, all.get(0).depth()}[what];
        }

        int node(int i) {
            if (!on) {
                return STATE;
            }
            List<Node> all = nodes();
            if (all.size() > 300) {
                return FULL;
            }
            return in(i, 1, all.size() - 1) ? all.get(i).line : NONE;
        }

        int sheet(int sheet, int wide, int n) {
            if (!in(sheet, 0, 3) || wide != 0 && wide != 8 && wide != 16 && wide != 32) {
                return BEYOND;
            }
            if (wide == 0) {
                sheets[sheet] = null;
                return 1;
            }
            if (n < 0) {
                return STATE;
            }
            if (n > 24) {
                return BEYOND;
            }
            sheets[sheet] = new int[n];
            bits[sheet] = wide;
            return 1;
        }

        private int error(int sheet, int i) {
            if (!in(sheet, 0, 3)) {
                return BEYOND;
            }
            if (sheets[sheet] == null) {
                return MISSING;
            }
            return in(i, 0, sheets[sheet].length - 1) ? 0 : BEYOND;
        }

        private void write(int sheet, int i, int v) {
            long span = 1L << bits[sheet];
            long half = span / 2;
            sheets[sheet][i] = (int) (Math.floorMod(v + half, span) - half);
        }

        int put(int sheet, int i, int v) {
            int error = error(sheet, i);
            if (error != 0) {
                return error;
            }
            write(sheet, i, v);
            return 1;
        }

        /** First whether it is an ERROR, then what is answered. */
        int[] number(int sheet, int i) {
            int error = error(sheet, i);
            return error != 0 ? new int[] {1, error} : new int[] {0, sheets[sheet][i]};
        }

        int copy(int sheet, int i, int other, int j, int n) {
            if (!in(sheet, 0, 3) || !in(other, 0, 3)) {
                return BEYOND;
            }
            if (sheets[sheet] == null || sheets[other] == null) {
                return MISSING;
            }
            if (bits[sheet] != bits[other]) {
                return KIND;
            }
            if (n < 0 || i < 0 || j < 0 || (long) i + n > sheets[sheet].length || (long) j + n > sheets[other].length) {
                return BEYOND;
            }
            int[] were = sheets[sheet].clone();
            for (int k = 0; k < n; k++) {
                sheets[other][j + k] = were[i + k];
            }
            return n;
        }

        int degrees(int sheet, int what) {
            if (!in(sheet, 0, 3) || !in(what, 0, 2)) {
                return BEYOND;
            }
            if (sheets[sheet] == null) {
                return MISSING;
            }
            int many = 0;
            for (int p = 0; p < size && p < sheets[sheet].length; p++) {
                sheets[sheet][p] = at(p, what);
                many++;
            }
            return many;
        }

        int walks(int sheet, int what) {
            if (!in(sheet, 0, 3) || !in(what, 0, 1)) {
                return BEYOND;
            }
            if (sheets[sheet] == null) {
                return MISSING;
            }
            if (!on) {
                return STATE;
            }
            Stand s = stand();
            int many = 0;
            for (int v : sheets[sheet]) {
                if (!listed(movesOf(s)).contains(v)) {
                    break;
                }
                s = behind(s, v);
                many++;
            }
            return what == 0 ? many : worthOf(s).wins ? 1 : 0;
        }

        int image() {
            keptSize = size;
            keptLines = new ArrayList<>(lines);
            keptZ = z;
            return lines.size();
        }

        int restore() {
            if (keptLines == null) {
                return NONE;
            }
            size = keptSize;
            lines = new ArrayList<>(keptLines);
            z = keptZ;
            on = false;
            return lines.size();
        }

        int count(int what) {
            int there = 0;
            for (int[] s : sheets) {
                there += s == null ? 0 : 1;
            }
            return in(what, 0, 5) ? new int[] {size, lines.size(), tape.size(), on ? 1 : 0, z, there}[what] : BEYOND;
        }
    }
}
