import java.util.ArrayList;
import java.util.Arrays;
import java.util.List;

/**
 * Each ERROR of each act, in the order in which the document tells them. Each refused call is made on one of two
 * objects that came to be by the same calls; behind it both must be alike in all that can be asked of them, and
 * told() of that ERROR alone must be one more.
 */
public final class ErrorTests {
    private static final int LOW = -1100000000;
    private static final int BEYOND = LOW - 1;
    private static final int NONE = LOW - 2;
    private static final int STATE = LOW - 3;
    private static final int FULL = LOW - 4;
    private static final int KIND = LOW - 5;
    private static final int MISSING = LOW - 6;
    private static final int MIN = Integer.MIN_VALUE;
    private static final int MAX = Integer.MAX_VALUE;

    /** Makes a new object that is as told. */
    private interface State {
        MarkerWalks made();
    }

    private interface Act {
        int on(MarkerWalks x);
    }

    /** An act with one argument left open. */
    private interface ActOf {
        int on(MarkerWalks x, int v);
    }

    private static int wrong;
    private static int refusals;
    private static String promise = "";

    public static void main(String[] args) {
        networkErrors();
        structureErrors();
        tapeErrors();
        textFaults();
        beginErrors();
        goErrors();
        gameErrors();
        worthErrors();
        planErrors();
        treeErrors();
        sheetErrors();
        numberErrors();
        copyErrors();
        rowErrors();
        restErrors();
        System.out.println(refusals + " calls refused, " + wrong + " not as due");
        if (wrong != 0) {
            System.exit(1);
        }
    }

    // ---- what is held

    private static void fault(String call, String text) {
        wrong++;
        System.out.println(promise + ": " + call + " " + text);
    }

    private static void refused(String call, State state, Act act, int error) {
        refusals++;
        MarkerWalks x = state.made();
        int[] before = tolds(x);
        int got = act.on(x);
        if (got != error) {
            fault(call, "answered " + got + ", due is " + error);
        }
        int[] after = tolds(x);
        for (int k = 1; k <= 6; k++) {
            int more = error == LOW - k ? 1 : 0;
            if (after[k] - before[k] != more) {
                fault(call, "made told(" + k + ") " + (after[k] - before[k]) + " more, due is " + more);
            }
        }
        MarkerWalks twin = state.made();
        tolds(twin);
        alike(call, x, twin);
    }

    private static void alike(String call, MarkerWalks x, MarkerWalks twin) {
        List<Integer> seen = lookedThrough(x);
        List<Integer> due = lookedThrough(twin);
        if (!seen.equals(due)) {
            fault(call, "changed what can be asked: " + seen + ", due is " + due);
        }
    }

    private static int[] tolds(MarkerWalks x) {
        int[] all = new int[7];
        for (int k = 1; k <= 6; k++) {
            all[k] = x.told(k);
        }
        return all;
    }

    /** Refused below low and above high, also where only the lowest bits would be good. */
    private static void outside(String call, State state, ActOf act, int low, int high) {
        int[] bad = {low - 1, high + 1, MIN, MAX, low - 32, low + 32, high + 64, low + 256, low + 65536, low ^ MIN, ~high};
        for (int v : bad) {
            if (v < low || v > high) {
                refused(call + " of " + v, state, x -> act.on(x, v), BEYOND);
            }
        }
        for (int v = low; v <= high && v - low < 13; v++) {
            int got = act.on(state.made(), v);
            if (got == BEYOND) {
                fault(call + " of " + v, "answered BEYOND");
            }
        }
    }

    // ---- all that can be asked of an object, in fewer than 400 calls

    private static List<Integer> lookedThrough(MarkerWalks x) {
        List<Integer> all = new ArrayList<>();
        lookAtNetwork(x, all);
        lookAtGame(x, all);
        lookAtSheets(x, all);
        while (x.game(4) > 0) {
            all.add(x.back());
            all.add(x.game(1));
            all.add(x.game(2));
            all.add(x.game(3));
        }
        all.add(x.network());
        lookAtNetwork(x, all);
        all.add(x.restore());
        lookAtNetwork(x, all);
        return all;
    }

    private static void lookAtNetwork(MarkerWalks x, List<Integer> all) {
        for (int i = 0; i <= 5; i++) {
            all.add(x.count(i));
        }
        for (int i = 0; i < x.count(1); i++) {
            all.add(x.ends(i, 0));
            all.add(x.ends(i, 1));
            all.add(x.ends(i, 2));
        }
        all.add(x.starts(2));
    }

    private static void lookAtGame(MarkerWalks x, List<Integer> all) {
        if (x.count(3) == 0) {
            all.add(x.game(0));
            return;
        }
        for (int i = 0; i <= 7; i++) {
            all.add(x.game(i));
        }
        for (int i = 0; i < x.game(4); i++) {
            all.add(x.moved(i));
        }
        all.add(x.moves(0));
        all.add(x.moves(1));
        all.add(x.worth(0));
        all.add(x.worth(1));
        all.add(x.reach());
        all.add(x.tree(0));
        all.add(x.node(1));
        all.add(x.fight(57, 65, 0));
        all.add(x.fight(57, 65, 1));
    }

    private static void lookAtSheets(MarkerWalks x, List<Integer> all) {
        for (int s = 0; s < 4; s++) {
            int got = x.number(s, 0);
            for (int i = 0; i < 24 && x.put(s, i, x.number(s, i)) == 1; i++) {
                got = x.number(s, i);
                all.add(got);
            }
            all.add(got);
            for (int other = s + 1; other < 4; other++) {
                all.add(x.copy(s, 0, other, 0, 0));
            }
            x.put(s, 0, 0x12348765);
            all.add(x.number(s, 0));
        }
    }

    // ---- states

    private static void feedText(MarkerWalks x, String text) {
        for (int i = 0; i < text.length(); i += 8) {
            int n = Math.min(8, text.length() - i);
            long word = 0;
            for (int j = n - 1; j >= 0; j--) {
                word = word << 8 | text.charAt(i + j);
            }
            x.feed(word, n);
        }
    }

    private static MarkerWalks of(String text) {
        MarkerWalks x = new MarkerWalks();
        feedText(x, text);
        x.network();
        return x;
    }

    private static MarkerWalks begun(String text, int rule, int point) {
        MarkerWalks x = of(text);
        x.begin(rule, point);
        return x;
    }

    private static String sameLines(String line, int n) {
        StringBuilder text = new StringBuilder(line);
        for (int i = 1; i < n; i++) {
            text.append(',').append(line);
        }
        return text.toString();
    }

    /** An image, three SHEETS, a TEXT on THE TAPE, z, and some ERRORS told: so that each of them could be harmed. */
    private static MarkerWalks furnished(String text) {
        MarkerWalks x = of("a>b,c<d,b-f");
        x.seed(-77);
        x.image();
        feedText(x, text);
        x.network();
        x.sheet(0, 8, 5);
        x.put(0, 1, 1);
        x.put(0, 4, -3);
        x.sheet(1, 16, 24);
        x.put(1, 23, 4711);
        x.sheet(2, 8, 0);
        x.seed(123456789);
        x.told(0);
        x.back();
        feedText(x, "b-c,a>e,d<a");
        return x;
    }

    private static final String RICH = "a-b,b-c,c>d,d-e,e<f,f-g,g-h,h>i,i-j,j-a,b-d,a-b";

    private static MarkerWalks noGame() {
        return furnished(RICH);
    }

    private static MarkerWalks inGame() {
        MarkerWalks x = furnished(RICH);
        x.begin(1, 0);
        x.go(0);
        x.go(10);
        x.go(3);
        return x;
    }

    private static MarkerWalks atFirst() {
        MarkerWalks x = furnished(RICH);
        x.begin(2, 1);
        return x;
    }

    private static MarkerWalks lastLoses() {
        MarkerWalks x = furnished(RICH);
        x.begin(4, 3);
        x.go(2);
        return x;
    }

    /** THE GAME by RULE 4 is gone, but its RULE may still lie about. */
    private static MarkerWalks lastLosesGone() {
        MarkerWalks x = lastLoses();
        x.way(0, 1);
        return x;
    }

    private static MarkerWalks over() {
        MarkerWalks x = furnished("a-b,b-c,c>d,d-b");
        x.begin(0, 0);
        x.go(0);
        x.go(3);
        x.go(2);
        return x;
    }

    private static MarkerWalks overGone() {
        MarkerWalks x = over();
        x.cut(3);
        return x;
    }

    /** Who moves doesn't win, so that BEST tells none. */
    private static MarkerWalks losing() {
        MarkerWalks x = furnished("a-b,b-c");
        x.begin(0, 0);
        return x;
    }

    private static MarkerWalks noLines() {
        MarkerWalks x = furnished("a-b");
        x.points(10);
        x.begin(4, 9);
        return x;
    }

    private static MarkerWalks onePoint() {
        MarkerWalks x = furnished("a-b");
        x.points(1);
        return x;
    }

    private static MarkerWalks fullTape() {
        MarkerWalks x = furnished("a-b,b-c");
        x.begin(0, 0);
        x.network();
        for (int i = 0; i < 7; i++) {
            x.feed(0x2C622D612C622D61L, 8);
        }
        x.feed(0x2C622D61L, 4);
        return x;
    }

    /** Four bytes find room yet. */
    private static MarkerWalks nearlyFullTape() {
        MarkerWalks x = furnished("a-b,b-c");
        x.begin(0, 0);
        x.network();
        for (int i = 0; i < 7; i++) {
            x.feed(0x2C622D612C622D61L, 8);
        }
        return x;
    }

    private static MarkerWalks bigTree() {
        MarkerWalks x = furnished(sameLines("a-b", 12));
        x.begin(1, 0);
        return x;
    }

    // ---- promises 2 to 7

    private static void networkErrors() {
        promise = "promise 2: points";
        outside("points(n)", ErrorTests::inGame, (x, v) -> x.points(v), 1, 10);
        outside("points(n) of a new object", MarkerWalks::new, (x, v) -> x.points(v), 1, 10);

        promise = "promise 3: line";
        State lessThanFull = () -> {
            MarkerWalks x = furnished("a-b,b-c,c-g");
            x.begin(0, 0);
            return x;
        };
        outside("line(a, 1, 0)", lessThanFull, (x, v) -> x.line(v, 1, 0), 0, 6);
        outside("line(1, b, 0)", lessThanFull, (x, v) -> x.line(1, v, 0), 0, 6);
        outside("line(0, 1, way)", lessThanFull, (x, v) -> x.line(0, 1, v), 0, 2);
        outside("line(a, a, 0)", lessThanFull, (x, v) -> x.line(v, v, 0), 0, 6);
        outside("line(0, 0, way)", lessThanFull, (x, v) -> x.line(0, 0, v), 0, 2);
        outside("line(a, 1, 0), full", ErrorTests::inGame, (x, v) -> x.line(v, 1, 0), 0, 9);
        outside("line(1, b, 0), full", ErrorTests::inGame, (x, v) -> x.line(1, v, 0), 0, 9);
        outside("line(0, 1, way), full", ErrorTests::inGame, (x, v) -> x.line(0, 1, v), 0, 2);
        outside("line(0, 0, way), full", ErrorTests::inGame, (x, v) -> x.line(0, 0, v), 0, 2);
        for (int p = 0; p <= 6; p++) {
            int same = p;
            refused("line(" + p + ", " + p + ", 0)", lessThanFull, x -> x.line(same, same, 0), KIND);
            refused("KIND ahead of FULL", ErrorTests::inGame, x -> x.line(same, same, 2), KIND);
        }
        refused("a 13th LINE", ErrorTests::inGame, x -> x.line(0, 1, 0), FULL);
        refused("a 13th LINE between others", ErrorTests::inGame, x -> x.line(9, 4, 2), FULL);
        refused("line(0, 1, 0), one POINT", ErrorTests::onePoint, x -> x.line(0, 1, 0), BEYOND);
        refused("line(0, 0, 0), one POINT", ErrorTests::onePoint, x -> x.line(0, 0, 0), KIND);

        promise = "promise 4: way";
        outside("way(line, 1)", ErrorTests::inGame, (x, v) -> x.way(v, 1), 0, 11);
        outside("way(line, 1)", ErrorTests::over, (x, v) -> x.way(v, 1), 0, 3);
        outside("way(2, way)", ErrorTests::inGame, (x, v) -> x.way(2, v), 0, 2);
        refused("way(0, 0), no LINES", ErrorTests::noLines, x -> x.way(0, 0), BEYOND);

        promise = "promise 5: cut";
        outside("cut(line)", ErrorTests::inGame, (x, v) -> x.cut(v), 0, 11);
        outside("cut(line)", ErrorTests::over, (x, v) -> x.cut(v), 0, 3);
        refused("cut(0), no LINES", ErrorTests::noLines, x -> x.cut(0), BEYOND);
        refused("cut(-1), no LINES", ErrorTests::noLines, x -> x.cut(-1), BEYOND);

        promise = "promise 6: ends";
        outside("ends(line, 0)", ErrorTests::inGame, (x, v) -> x.ends(v, 0), 0, 11);
        outside("ends(line, 2)", ErrorTests::over, (x, v) -> x.ends(v, 2), 0, 3);
        outside("ends(0, what)", ErrorTests::inGame, (x, v) -> x.ends(0, v), 0, 2);
        refused("ends(0, 0), no LINES", ErrorTests::noLines, x -> x.ends(0, 0), BEYOND);

        promise = "promise 7: at";
        outside("at(point, 0)", ErrorTests::inGame, (x, v) -> x.at(v, 0), 0, 9);
        outside("at(point, 2)", ErrorTests::over, (x, v) -> x.at(v, 2), 0, 3);
        outside("at(0, what)", ErrorTests::inGame, (x, v) -> x.at(0, v), 0, 2);
        refused("at(1, 0), one POINT", ErrorTests::onePoint, x -> x.at(1, 0), BEYOND);
    }

    // ---- promises 8 to 11

    private static void structureErrors() {
        promise = "promise 8: sides";
        refused("sides(), a round of three in it", ErrorTests::inGame, x -> x.sides(), NONE);

        promise = "promise 9: pairing";
        outside("pairing(set, 0), ten POINTS", ErrorTests::inGame, (x, v) -> x.pairing(v, 0), 0, 1023);
        outside("pairing(set, 1), four POINTS", ErrorTests::over, (x, v) -> x.pairing(v, 1), 0, 15);
        outside("pairing(set, 1), one POINT", ErrorTests::onePoint, (x, v) -> x.pairing(v, 1), 0, 1);
        outside("pairing(3, what)", ErrorTests::inGame, (x, v) -> x.pairing(3, v), 0, 1);
        for (int p = 4; p < 32; p++) {
            int set = 1 << p | 3;
            refused("POINT " + p + " of four in pairing", ErrorTests::over, x -> x.pairing(set, 0), BEYOND);
        }

        promise = "promise 11: kernel";
        for (int i : new int[] {-2, -3, -32, MIN, MIN + 1}) {
            refused("kernel(" + i + ")", ErrorTests::inGame, x -> x.kernel(i), BEYOND);
        }
        State two = () -> furnished("a-b,c>b");
        for (int i : new int[] {2, 3, 32, 256, MAX}) {
            refused("kernel(" + i + ") of two", two, x -> x.kernel(i), NONE);
        }
        State none = () -> begun("a>b,b>c,c>a", 0, 0);
        refused("kernel(0) where there is none", none, x -> x.kernel(0), NONE);
        refused("kernel(-2) where there is none", none, x -> x.kernel(-2), BEYOND);
        refused("kernel(1) of one", ErrorTests::noLines, x -> x.kernel(1), NONE);
    }

    // ---- promises 12 and 13

    private static void tapeErrors() {
        promise = "promise 12: feed";
        State emptyTape = () -> {
            MarkerWalks x = inGame();
            feedText(x, "?");
            x.network();
            return x;
        };
        outside("feed(a-b,b-c,, n)", ErrorTests::inGame, (x, v) -> x.feed(0x2C632D622C622D61L, v), 1, 8);
        outside("feed(a-b,b-c,, n), empty", emptyTape, (x, v) -> x.feed(0x2C632D622C622D61L, v), 1, 8);
        outside("feed(-1, n), full", ErrorTests::fullTape, (x, v) -> x.feed(-1L, v), 1, 8);
        for (int n = 1; n <= 8; n++) {
            int many = n;
            refused("60 bytes and " + n, ErrorTests::fullTape, x -> x.feed(0x622D612C622D61L, many), FULL);
        }
        for (int n = 5; n <= 8; n++) {
            int many = n;
            refused("56 bytes and " + n, ErrorTests::nearlyFullTape, x -> x.feed(0x622D612C622D61L, many), FULL);
        }
    }

    /** A FAULT is no ERROR: THE NETWORK and THE GAME stay, THE TAPE is empty. */
    private static void textFaults() {
        promise = "promise 13: network";
        State[] states = {ErrorTests::inGame, ErrorTests::atFirst, ErrorTests::lastLoses, ErrorTests::over, ErrorTests::noLines};
        String[] texts = {"", "?", "a", "a-", "a-b,", "a-bb", "a-b,c>j,d<d", "a-b,b-c,k", sameLines("a-b", 12) + ",c-d"};
        int[] places = {0, 0, 1, 2, 4, 3, 10, 8, 48};
        for (State state : states) {
            for (int i = 0; i < texts.length; i++) {
                MarkerWalks x = emptied(state);
                MarkerWalks twin = emptied(state);
                int[] before = tolds(x);
                tolds(twin);
                feedText(x, texts[i]);
                int got = x.network();
                String call = "network() of '" + texts[i] + "'";
                if (got != -10 - places[i]) {
                    fault(call, "answered " + got + ", due is " + (-10 - places[i]));
                }
                if (!Arrays.equals(before, tolds(x))) {
                    fault(call, "was told as an ERROR");
                }
                tolds(twin);
                alike(call, x, twin);
            }
        }
    }

    private static MarkerWalks emptied(State state) {
        MarkerWalks x = state.made();
        x.feed('?', 1);
        x.network();
        return x;
    }

    // ---- promises 14 to 19

    private static void beginErrors() {
        promise = "promise 14: begin";
        outside("begin(rule, 0)", ErrorTests::inGame, (x, v) -> x.begin(v, 0), 0, 4);
        outside("begin(rule, 0), no game", ErrorTests::noGame, (x, v) -> x.begin(v, 0), 0, 4);
        outside("begin(0, point), ten POINTS", ErrorTests::inGame, (x, v) -> x.begin(0, v), 0, 9);
        outside("begin(3, point), four POINTS", ErrorTests::over, (x, v) -> x.begin(3, v), 0, 3);
        refused("begin(4, 1), one POINT", ErrorTests::onePoint, x -> x.begin(4, 1), BEYOND);
        refused("begin(5, 10)", ErrorTests::lastLoses, x -> x.begin(5, 10), BEYOND);
    }

    private static void goErrors() {
        promise = "promise 15: go";
        int[] any = {0, 1, 2, 3, 11, 12, -1, 32, MIN, MAX};
        for (int line : any) {
            refused("go(" + line + ") without a game", ErrorTests::noGame, x -> x.go(line), STATE);
            refused("go(" + line + ") behind a game", ErrorTests::lastLosesGone, x -> x.go(line), STATE);
            refused("go(" + line + "), over", ErrorTests::over, x -> x.go(line), STATE);
            refused("go(" + line + "), no LINES", ErrorTests::noLines, x -> x.go(line), STATE);
        }
        refused("go(0) of a new object", MarkerWalks::new, x -> x.go(0), STATE);
        outside("go(line)", ErrorTests::inGame, (x, v) -> x.go(v), 0, 11);
        outside("go(line)", ErrorTests::losing, (x, v) -> x.go(v), 0, 1);
        refused("a LINE not at the MARKER", ErrorTests::inGame, x -> x.go(8), NONE);
        refused("a LINE that is GONE", ErrorTests::inGame, x -> x.go(3), NONE);
        State metAhead = () -> begun("a-b,b-c,c-a,c-d", 0, 0);
        State two = () -> {
            MarkerWalks x = metAhead.made();
            x.go(0);
            x.go(1);
            return x;
        };
        refused("to a POINT that is MET", two, x -> x.go(2), NONE);
        refused("back along the LINE", two, x -> x.go(1), NONE);
        for (int rule : new int[] {2, 3}) {
            refused("against the WAY, RULE " + rule, () -> begun("b>a,a-c", rule, 0), x -> x.go(0), NONE);
            refused("against the WAY, RULE " + rule, () -> begun("a<b,a-c", rule, 0), x -> x.go(0), NONE);
        }

        promise = "promise 16: back";
        refused("back() without a game", ErrorTests::noGame, x -> x.back(), STATE);
        refused("back() behind a game", ErrorTests::overGone, x -> x.back(), STATE);
        refused("back() of a new object", MarkerWalks::new, x -> x.back(), STATE);
        refused("back() without a MOVE", ErrorTests::atFirst, x -> x.back(), NONE);
        refused("back() without a MOVE, over", ErrorTests::noLines, x -> x.back(), NONE);
    }

    private static void gameErrors() {
        promise = "promise 17: game";
        outside("game(what)", ErrorTests::inGame, (x, v) -> x.game(v), 0, 7);
        outside("game(what) without a game", ErrorTests::noGame, (x, v) -> x.game(v), 0, 7);
        for (int what = 0; what <= 7; what++) {
            int asked = what;
            refused("game(" + what + ") without a game", ErrorTests::noGame, x -> x.game(asked), STATE);
            refused("game(" + what + ") behind a game", ErrorTests::lastLosesGone, x -> x.game(asked), STATE);
        }

        promise = "promise 18: moved";
        for (int i : new int[] {0, 1, 2, 3, -1, MIN, MAX}) {
            refused("moved(" + i + ") without a game", ErrorTests::noGame, x -> x.moved(i), STATE);
            refused("moved(" + i + ") behind a game", ErrorTests::overGone, x -> x.moved(i), STATE);
        }
        for (int i : new int[] {3, 4, 12, 13, 32, -1, -32, MIN, MAX}) {
            refused("moved(" + i + ") of three", ErrorTests::inGame, x -> x.moved(i), NONE);
        }
        refused("moved(0) of none", ErrorTests::atFirst, x -> x.moved(0), NONE);
        State takenBack = () -> {
            MarkerWalks x = inGame();
            x.back();
            return x;
        };
        refused("moved(2), taken back", takenBack, x -> x.moved(2), NONE);

        promise = "promise 19: moves";
        outside("moves(what)", ErrorTests::inGame, (x, v) -> x.moves(v), 0, 1);
        outside("moves(what) without a game", ErrorTests::noGame, (x, v) -> x.moves(v), 0, 1);
        for (int what = 0; what <= 1; what++) {
            int asked = what;
            refused("moves(" + what + ") without a game", ErrorTests::noGame, x -> x.moves(asked), STATE);
            refused("moves(" + what + ") behind a game", ErrorTests::overGone, x -> x.moves(asked), STATE);
        }
    }

    // ---- promises 20 to 22

    private static void worthErrors() {
        promise = "promise 20: worth";
        outside("worth(what)", ErrorTests::inGame, (x, v) -> x.worth(v), 0, 1);
        outside("worth(what) without a game", ErrorTests::noGame, (x, v) -> x.worth(v), 0, 1);
        outside("worth(what), RULE 4", ErrorTests::lastLoses, (x, v) -> x.worth(v), 0, 1);
        for (int what = 0; what <= 1; what++) {
            int asked = what;
            refused("worth(" + what + ") without a game", ErrorTests::noGame, x -> x.worth(asked), STATE);
            refused("STATE ahead of KIND, worth(" + what + ")", ErrorTests::lastLosesGone, x -> x.worth(asked), STATE);
        }
        refused("worth(1), RULE 4", ErrorTests::lastLoses, x -> x.worth(1), KIND);
        refused("worth(1), RULE 4, over", ErrorTests::noLines, x -> x.worth(1), KIND);
        if (noLines().worth(0) != 0) {
            fault("worth(0), RULE 4, over", "isn't 0");
        }

        promise = "promise 21: reach";
        refused("reach() without a game", ErrorTests::noGame, x -> x.reach(), STATE);
        refused("reach() behind a game", ErrorTests::overGone, x -> x.reach(), STATE);

        promise = "promise 22: starts";
        outside("starts(rule)", ErrorTests::inGame, (x, v) -> x.starts(v), 0, 4);
        outside("starts(rule) without a game", ErrorTests::noGame, (x, v) -> x.starts(v), 0, 4);
    }

    // ---- promises 23 to 25

    private static final int[] BAD_CODES = {
        0, 8, 9, 10, 18, 20, 70, 79, 80, 81, 87, 97, 101, 107, 110, 170, 180, 701, 708, 778, 801, 871, 1011, 1101, 1110, 1118,
        1181, 1811, 7077, 7707, 7770, 7778, 7787, 7877, 8111, 8777, 9999, 10000, 10111, 11111, 77777, 111111, 1111111111,
        65536 + 1, -1, -7, -11, -1111, MIN, MIN + 1, MAX};

    private static void planErrors() {
        promise = "promise 23: tells";
        State[] states = {ErrorTests::inGame, ErrorTests::noGame, ErrorTests::over};
        for (State state : states) {
            for (int code : BAD_CODES) {
                refused("tells(" + code + ")", state, x -> x.tells(code), BEYOND);
            }
        }
        for (int code : new int[] {1, 5, 7, 77, 555, 1111, 7777}) {
            refused("tells(" + code + ") without a game", ErrorTests::noGame, x -> x.tells(code), STATE);
            refused("tells(" + code + ") behind a game", ErrorTests::overGone, x -> x.tells(code), STATE);
            refused("tells(" + code + "), over", ErrorTests::over, x -> x.tells(code), NONE);
            refused("tells(" + code + "), no LINES", ErrorTests::noLines, x -> x.tells(code), NONE);
        }
        for (int code : new int[] {2, 3, 4, 6, 5555, 1234, 4567}) {
            refused("tells(" + code + "), over", ErrorTests::over, x -> x.tells(code), NONE);
        }
        refused("no MOVE wins", ErrorTests::losing, x -> x.tells(3), NONE);
        refused("no MOVE wins, of four", ErrorTests::losing, x -> x.tells(3333), NONE);

        promise = "promise 24: play";
        for (State state : states) {
            for (int code : BAD_CODES) {
                refused("play(" + code + ", 5, 1)", state, x -> x.play(code, 5, 1), BEYOND);
                refused("play(5, " + code + ", 1)", state, x -> x.play(5, code, 1), BEYOND);
            }
            outside("play(5, 5, n)", state, (x, v) -> x.play(5, 5, v), 1, 20);
        }
        refused("play(5, 5, 20) without a game", ErrorTests::noGame, x -> x.play(5, 5, 20), STATE);
        refused("play(1, 7777, 1) behind a game", ErrorTests::overGone, x -> x.play(1, 7777, 1), STATE);

        promise = "promise 25: fight";
        for (State state : states) {
            for (int code : BAD_CODES) {
                refused("fight(" + code + ", 5, 1)", state, x -> x.fight(code, 5, 1), BEYOND);
                refused("fight(5, " + code + ", 0)", state, x -> x.fight(5, code, 0), BEYOND);
            }
            outside("fight(5, 5, what)", state, (x, v) -> x.fight(5, 5, v), 0, 1);
        }
        refused("fight(5, 5, 0) without a game", ErrorTests::noGame, x -> x.fight(5, 5, 0), STATE);
        refused("fight(1, 7777, 1) behind a game", ErrorTests::overGone, x -> x.fight(1, 7777, 1), STATE);
    }

    // ---- promises 26 and 27

    private static void treeErrors() {
        promise = "promise 26: tree";
        State[] states = {ErrorTests::inGame, ErrorTests::noGame, ErrorTests::over, ErrorTests::bigTree};
        for (State state : states) {
            outside("tree(what)", state, (x, v) -> x.tree(v), 0, 2);
        }
        State bigGone = () -> {
            MarkerWalks x = bigTree();
            x.way(0, 0);
            return x;
        };
        for (int what = 0; what <= 2; what++) {
            int asked = what;
            refused("tree(" + what + ") without a game", ErrorTests::noGame, x -> x.tree(asked), STATE);
            refused("STATE ahead of FULL, tree(" + what + ")", bigGone, x -> x.tree(asked), STATE);
            refused("more than 300, tree(" + what + ")", ErrorTests::bigTree, x -> x.tree(asked), FULL);
        }

        promise = "promise 27: node";
        for (int i : new int[] {0, 1, 299, 300, 301, -1, MIN, MAX}) {
            refused("node(" + i + ") without a game", ErrorTests::noGame, x -> x.node(i), STATE);
            refused("STATE ahead of FULL, node(" + i + ")", bigGone, x -> x.node(i), STATE);
            refused("more than 300, node(" + i + ")", ErrorTests::bigTree, x -> x.node(i), FULL);
        }
        for (int i : new int[] {0, 3, 4, 32, 300, -1, -32, MIN, MAX}) {
            refused("node(" + i + ") of three", ErrorTests::losing, x -> x.node(i), NONE);
        }
        for (int i : new int[] {0, 1, -1}) {
            refused("node(" + i + ") of the ROOT alone", ErrorTests::over, x -> x.node(i), NONE);
        }
    }

    // ---- promises 28 to 33

    private static void sheetErrors() {
        promise = "promise 28: sheet";
        outside("sheet(sheet, 8, 3)", ErrorTests::inGame, (x, v) -> x.sheet(v, 8, 3), 0, 3);
        outside("sheet(sheet, 0, 3)", ErrorTests::inGame, (x, v) -> x.sheet(v, 0, 3), 0, 3);
        for (int n : new int[] {3, -1, 25}) {
            for (int bits : new int[] {-1, 1, 4, 7, 9, 12, 15, 17, 24, 31, 33, 64, 256, -8, -16, -32, MIN, MAX, 8 + 65536}) {
                refused("sheet(1, " + bits + ", " + n + ")", ErrorTests::inGame, x -> x.sheet(1, bits, n), BEYOND);
            }
            refused("sheet(4, 8, " + n + ")", ErrorTests::inGame, x -> x.sheet(4, 8, n), BEYOND);
            refused("sheet(-1, 0, " + n + ")", ErrorTests::inGame, x -> x.sheet(-1, 0, n), BEYOND);
            refused("sheet(4, 9, " + n + ")", ErrorTests::inGame, x -> x.sheet(4, 9, n), BEYOND);
        }
        for (int bits : new int[] {8, 16, 32}) {
            for (int s = 0; s <= 3; s++) {
                int sheet = s;
                for (int n : new int[] {-1, -2, -24, MIN}) {
                    refused("sheet(" + s + ", " + bits + ", " + n + ")", ErrorTests::inGame, x -> x.sheet(sheet, bits, n), STATE);
                }
                for (int n : new int[] {25, 26, 32, 256, MAX}) {
                    refused("sheet(" + s + ", " + bits + ", " + n + ")", ErrorTests::inGame, x -> x.sheet(sheet, bits, n), BEYOND);
                }
            }
        }
    }

    private static void numberErrors() {
        promise = "promise 29: put";
        outside("put(sheet, 0, 9)", ErrorTests::inGame, (x, v) -> x.put(v, 0, 9), 0, 1);
        outside("put(0, i, 9), of five", ErrorTests::inGame, (x, v) -> x.put(0, v, 9), 0, 4);
        outside("put(1, i, 9), of 24", ErrorTests::inGame, (x, v) -> x.put(1, v, 9), 0, 23);
        refused("put(2, 0, 9), of none", ErrorTests::inGame, x -> x.put(2, 0, 9), BEYOND);
        promise = "promise 30: number";
        outside("number(0, i), of five", ErrorTests::inGame, (x, v) -> x.number(0, v), 0, 4);
        outside("number(1, i), of 24", ErrorTests::inGame, (x, v) -> x.number(1, v), 0, 23);
        refused("number(2, 0), of none", ErrorTests::inGame, x -> x.number(2, 0), BEYOND);
        for (int i : new int[] {0, 1, 24, -1, MIN, MAX}) {
            for (int s : new int[] {-1, 4, 32, 65536, MIN, MAX}) {
                refused("put(" + s + ", " + i + ", 9)", ErrorTests::inGame, x -> x.put(s, i, 9), BEYOND);
                refused("number(" + s + ", " + i + ")", ErrorTests::inGame, x -> x.number(s, i), BEYOND);
            }
            refused("put(3, " + i + ", 9), missing", ErrorTests::inGame, x -> x.put(3, i, 9), MISSING);
            refused("number(3, " + i + "), missing", ErrorTests::inGame, x -> x.number(3, i), MISSING);
        }
        State missingAgain = () -> {
            MarkerWalks x = inGame();
            x.sheet(1, 0, 24);
            return x;
        };
        refused("put(1, 0, 9), missing again", missingAgain, x -> x.put(1, 0, 9), MISSING);
        refused("number(1, 23), missing again", missingAgain, x -> x.number(1, 23), MISSING);
    }

    private static void copyErrors() {
        promise = "promise 31: copy";
        State twoOfFive = () -> {
            MarkerWalks x = inGame();
            x.sheet(2, 8, 4);
            x.put(2, 0, 100);
            x.put(2, 3, -100);
            return x;
        };
        for (int s : new int[] {-1, 4, 5, 32, 65536, MIN, MAX}) {
            refused("copy(" + s + ", 0, 0, 0, 1)", twoOfFive, x -> x.copy(s, 0, 0, 0, 1), BEYOND);
            refused("copy(0, 0, " + s + ", 0, 1)", twoOfFive, x -> x.copy(0, 0, s, 0, 1), BEYOND);
            refused("BEYOND ahead of MISSING: copy(" + s + ", 0, 3, 0, 1)", twoOfFive, x -> x.copy(s, 0, 3, 0, 1), BEYOND);
            refused("BEYOND ahead of MISSING: copy(3, 0, " + s + ", 0, 1)", twoOfFive, x -> x.copy(3, 0, s, 0, 1), BEYOND);
        }
        for (int n : new int[] {0, 1, -1, 25, MIN, MAX}) {
            refused("the first is missing, n " + n, twoOfFive, x -> x.copy(3, 0, 0, 0, n), MISSING);
            refused("the other is missing, n " + n, twoOfFive, x -> x.copy(0, 0, 3, 0, n), MISSING);
            refused("both are missing, n " + n, twoOfFive, x -> x.copy(3, 0, 3, 0, n), MISSING);
            refused("unlike bits, n " + n, twoOfFive, x -> x.copy(0, 0, 1, 0, n), KIND);
            refused("unlike bits, n " + n, twoOfFive, x -> x.copy(1, 0, 0, 0, n), KIND);
        }
        refused("MISSING ahead of BEYOND", twoOfFive, x -> x.copy(3, -1, 0, -1, 1), MISSING);
        refused("KIND ahead of BEYOND", twoOfFive, x -> x.copy(0, -1, 1, 99, 1), KIND);
        for (int v : new int[] {-1, -2, -5, -24, MIN, MIN + 1}) {
            refused("n " + v, twoOfFive, x -> x.copy(0, 0, 2, 0, v), BEYOND);
            refused("n " + v + " from behind the end", twoOfFive, x -> x.copy(0, 5, 2, 4, v), BEYOND);
            for (int n : new int[] {0, 1, 4}) {
                refused("i " + v + ", n " + n, twoOfFive, x -> x.copy(0, v, 2, 0, n), BEYOND);
                refused("j " + v + ", n " + n, twoOfFive, x -> x.copy(0, 0, 2, v, n), BEYOND);
            }
        }
        for (int n : new int[] {0, 1, 2, 3, 4}) {
            for (int more : new int[] {1, 2, 19, 24, MAX - 5}) {
                int i = 5 - n + more;
                int j = 4 - n + more;
                refused("i " + i + ", n " + n + " of five", twoOfFive, x -> x.copy(0, i, 2, 0, n), BEYOND);
                refused("j " + j + ", n " + n + " of four", twoOfFive, x -> x.copy(0, 0, 2, j, n), BEYOND);
            }
        }
        for (int n : new int[] {6, 24, 25, MAX, MAX - 1, MAX - 4}) {
            refused("n " + n, twoOfFive, x -> x.copy(0, 0, 0, 0, n), BEYOND);
            refused("n " + n + " from 1 to 1, a sum that wraps", twoOfFive, x -> x.copy(0, 1, 0, 1, n), BEYOND);
            refused("n " + n + " from 4 to 4, a sum that wraps", twoOfFive, x -> x.copy(0, 4, 0, 4, n), BEYOND);
        }
        refused("five of five to four", twoOfFive, x -> x.copy(0, 0, 2, 0, 5), BEYOND);
        refused("five of four to five", twoOfFive, x -> x.copy(2, 0, 0, 0, 5), BEYOND);
        refused("one of none", ErrorTests::inGame, x -> x.copy(2, 0, 0, 0, 1), BEYOND);
        refused("one to none", ErrorTests::inGame, x -> x.copy(0, 0, 2, 0, 1), BEYOND);
        refused("none of none, from 1", ErrorTests::inGame, x -> x.copy(2, 1, 0, 0, 0), BEYOND);
    }

    private static void rowErrors() {
        promise = "promise 32: degrees";
        for (int s : new int[] {-1, 4, 32, 65536, MIN, MAX}) {
            refused("degrees(" + s + ", 0)", ErrorTests::inGame, x -> x.degrees(s, 0), BEYOND);
            promise = "promise 33: walks";
            refused("walks(" + s + ", 0)", ErrorTests::inGame, x -> x.walks(s, 0), BEYOND);
            refused("walks(" + s + ", 0) without a game", ErrorTests::noGame, x -> x.walks(s, 0), BEYOND);
            promise = "promise 32: degrees";
        }
        outside("degrees(0, what)", ErrorTests::inGame, (x, v) -> x.degrees(0, v), 0, 2);
        outside("degrees(3, what), missing", ErrorTests::inGame, (x, v) -> x.degrees(3, v), 0, 2);
        for (int what = 0; what <= 2; what++) {
            int asked = what;
            refused("degrees(3, " + what + "), missing", ErrorTests::inGame, x -> x.degrees(3, asked), MISSING);
        }

        promise = "promise 33: walks";
        outside("walks(0, what)", ErrorTests::inGame, (x, v) -> x.walks(0, v), 0, 1);
        outside("walks(0, what) without a game", ErrorTests::noGame, (x, v) -> x.walks(0, v), 0, 1);
        outside("walks(3, what), missing", ErrorTests::noGame, (x, v) -> x.walks(3, v), 0, 1);
        for (int what = 0; what <= 1; what++) {
            int asked = what;
            refused("missing, walks(3, " + what + ")", ErrorTests::inGame, x -> x.walks(3, asked), MISSING);
            refused("MISSING ahead of STATE, walks(3, " + what + ")", ErrorTests::noGame, x -> x.walks(3, asked), MISSING);
            refused("walks(0, " + what + ") without a game", ErrorTests::noGame, x -> x.walks(0, asked), STATE);
            refused("walks(2, " + what + ") behind a game, none to go", ErrorTests::overGone, x -> x.walks(2, asked), STATE);
        }
    }

    // ---- promises 36 to 38

    private static void restErrors() {
        promise = "promise 36: restore";
        State noImage = () -> {
            MarkerWalks x = begun("a-b,b>c", 3, 0);
            x.seed(5);
            x.go(0);
            feedText(x, "b-c,a>e,d<a");
            return x;
        };
        refused("restore() without an image", noImage, x -> x.restore(), NONE);
        refused("restore() of a new object", MarkerWalks::new, x -> x.restore(), NONE);

        promise = "promise 37: count";
        outside("count(what)", ErrorTests::inGame, (x, v) -> x.count(v), 0, 5);
        outside("count(what) of a new object", MarkerWalks::new, (x, v) -> x.count(v), 0, 5);

        promise = "promise 38: told";
        outside("told(k)", ErrorTests::inGame, (x, v) -> x.told(v), 1, 6);
        outside("told(k) of a new object", MarkerWalks::new, (x, v) -> x.told(v), 1, 6);
    }
}
