import java.util.ArrayList;
import java.util.List;
import java.util.Random;

/**
 * Each sentence of the document that names a boundary case has a test of its own here, told under that sentence:
 * too small, too large, empty, full, wrapped around, none. What is refused stands in ErrorTests, with what stays.
 */
public final class EdgeTests {
    private static final int LOW = -1100000000;
    private static final int BEYOND = LOW - 1;
    private static final int NONE = LOW - 2;
    private static final int STATE = LOW - 3;
    private static final int FULL = LOW - 4;
    private static final int KIND = LOW - 5;
    private static final int MISSING = LOW - 6;
    private static final int MIN = Integer.MIN_VALUE;
    private static final int MAX = Integer.MAX_VALUE;

    private static int wrong;
    private static int asked;
    private static String sentence = "";

    public static void main(String[] args) {
        terms();
        networkSizes();
        toldAnew();
        gameIsGone();
        degrees();
        pairings();
        neededPoints();
        kernels();
        sides();
        tape();
        everyByteOfAText();
        everyLengthOfAText();
        pointsOfAText();
        rules();
        turnsAndEnds();
        takenBack();
        sets();
        lengths();
        nims();
        searchedPlainly();
        reaches();
        startsOfAll();
        leastAndGreatest();
        bestAndPair();
        draws();
        narrowAndSlow();
        everyCode();
        plansBehindPlans();
        plays();
        fights();
        trees();
        fullTrees();
        sheetSizes();
        numbersByTheirLowestBits();
        copies();
        degreesInSheets();
        walksInThought();
        seedsAndImages();
        countsAndTold();
        everyCallOfFiveHundredTwelve();
        System.out.println(asked + " answers asked, " + wrong + " not as due");
        if (wrong != 0) {
            System.exit(1);
        }
    }

    private static void says(String text) {
        sentence = text;
    }

    private static void due(String call, long got, long want) {
        asked++;
        if (got != want) {
            wrong++;
            System.out.println("'" + sentence + "': " + call + " answered " + got + ", due is " + want);
        }
    }

    private static void feedText(MarkerWalks x, String text) {
        for (int i = 0; i < text.length(); i += 8) {
            int n = Math.min(8, text.length() - i);
            long word = 0;
            for (int j = n - 1; j >= 0; j--) {
                word = word << 8 | text.charAt(i + j);
            }
            x.feed(word, n);
        }
    }

    private static int tell(MarkerWalks x, String text) {
        feedText(x, text);
        return x.network();
    }

    private static MarkerWalks of(String text) {
        MarkerWalks x = new MarkerWalks();
        tell(x, text);
        return x;
    }

    private static MarkerWalks ofPoints(int n) {
        MarkerWalks x = new MarkerWalks();
        x.points(n);
        return x;
    }

    private static MarkerWalks begun(String text, int rule, int point) {
        MarkerWalks x = of(text);
        x.begin(rule, point);
        return x;
    }

    private static MarkerWalks gone(String text, int rule, int point, int... lines) {
        MarkerWalks x = begun(text, rule, point);
        for (int line : lines) {
            x.go(line);
        }
        return x;
    }

    private static String sameLines(String line, int n) {
        StringBuilder text = new StringBuilder(line);
        for (int i = 1; i < n; i++) {
            text.append(',').append(line);
        }
        return text.toString();
    }

    /** POINTS 0 .. n - 1 in a row. */
    private static String row(int n) {
        StringBuilder text = new StringBuilder();
        for (int i = 0; i + 1 < n; i++) {
            text.append(i == 0 ? "" : ",").append((char) ('a' + i)).append('-').append((char) ('b' + i));
        }
        return text.toString();
    }

    private static String round(int n) {
        return row(n) + "," + (char) ('a' + n - 1) + "-a";
    }

    // ---- terms and promises 1 to 7

    private static void terms() {
        says("LOW is -1100000000; LOW - 1 BEYOND, LOW - 2 NONE, LOW - 3 STATE, LOW - 4 FULL, LOW - 5 KIND, LOW - 6 MISSING");
        MarkerWalks x = of(sameLines("a-b", 12));
        due("BEYOND", x.points(0), -1100000001);
        due("NONE", x.restore(), -1100000002);
        due("STATE", x.back(), -1100000003);
        due("FULL", x.line(0, 1, 0), -1100000004);
        due("KIND", x.line(0, 0, 0), -1100000005);
        due("MISSING", x.number(0, 0), -1100000006);

        says("As told: 4 POINTS, no LINES, no GAME; THE TAPE is empty, no image is kept.");
        x = new MarkerWalks();
        int[] first = {4, 0, 0, 0, 1, 0};
        for (int i = 0; i < first.length; i++) {
            due("count(" + i + ")", x.count(i), first[i]);
        }
        due("at(3, 0)", x.at(3, 0), 0);
        due("at(4, 0)", x.at(4, 0), BEYOND);
        due("ends(0, 0)", x.ends(0, 0), BEYOND);
        due("game(0)", x.game(0), STATE);
        due("restore()", x.restore(), NONE);
        due("network(): an empty TAPE", x.network(), -10);
        for (int s = 0; s <= 3; s++) {
            due("number(" + s + ", 0)", x.number(s, 0), MISSING);
        }
        due("two objects have nothing in common", new MarkerWalks().told(6), 0);
    }

    private static void networkSizes() {
        says("THE NETWORK has POINTS 0 .. n - 1 (n 1 .. 10; 4 at first)");
        for (int n = 1; n <= 10; n++) {
            MarkerWalks x = new MarkerWalks();
            due("points(" + n + ")", x.points(n), 4);
            due("count(0)", x.count(0), n);
            due("the first POINT", x.at(0, 0), 0);
            due("the last POINT", x.at(n - 1, 0), 0);
            due("none behind it", x.at(n, 0), BEYOND);
            due("how many there were", x.points(4), n);
        }
        says("There are n POINTS then, and no LINES");
        MarkerWalks x = of("a-b,b-d");
        due("points(4), as many as there were", x.points(4), 4);
        due("count(1)", x.count(1), 0);
        due("ends(0, 0)", x.ends(0, 0), BEYOND);
        due("at(1, 0)", x.at(1, 0), 0);

        says("LINES 0, 1, .. (12 at most; none at first)");
        x = ofPoints(10);
        for (int i = 0; i < 12; i++) {
            due("the number of a LINE", x.line(i % 9, 9, i % 3), i);
        }
        due("a 13th", x.line(0, 1, 0), FULL);
        for (int i = 0; i < 12; i++) {
            due("ends(" + i + ", 0)", x.ends(i, 0), i % 9);
            due("ends(" + i + ", 1)", x.ends(i, 1), 9);
            due("ends(" + i + ", 2)", x.ends(i, 2), i % 3);
        }
        says("Several LINES may join the same two POINTS.");
        x = ofPoints(2);
        for (int i = 0; i < 12; i++) {
            due("line(..)", x.line(i % 2, 1 - i % 2, i % 3), i);
        }
        due("at(0, 0)", x.at(0, 0), 12);
        due("at(1, 0)", x.at(1, 0), 12);

        says("The WAY of a LINE becomes another one: which it was.");
        for (int was = 0; was <= 2; was++) {
            for (int then = 0; then <= 2; then++) {
                x = ofPoints(2);
                x.line(0, 1, was);
                due("way(0, " + then + ")", x.way(0, then), was);
                due("ends(0, 2)", x.ends(0, 2), then);
                due("ends(0, 0)", x.ends(0, 0), 0);
                due("ends(0, 1)", x.ends(0, 1), 1);
            }
        }
    }

    private static List<int[]> twelveLines() {
        List<int[]> lines = new ArrayList<>();
        for (int i = 0; i < 12; i++) {
            lines.add(new int[] {i % 10, (i * 3 + 1) % 10, i % 3});
        }
        return lines;
    }

    private static void tellLines(MarkerWalks x, List<int[]> lines) {
        for (int[] l : lines) {
            x.line(l[0], l[1], l[2]);
        }
    }

    /** All of THE NETWORK: its ends, and what is at each POINT by them. */
    private static void isNetwork(MarkerWalks x, int points, List<int[]> lines) {
        due("count(0)", x.count(0), points);
        due("count(1)", x.count(1), lines.size());
        for (int i = 0; i < lines.size(); i++) {
            for (int what = 0; what <= 2; what++) {
                due("ends(" + i + ", " + what + ")", x.ends(i, what), lines.get(i)[what]);
            }
        }
        due("ends(" + lines.size() + ", 0)", x.ends(lines.size(), 0), BEYOND);
        for (int p = 0; p < points; p++) {
            int[] at = new int[3];
            for (int[] l : lines) {
                at[0] += l[0] == p || l[1] == p ? 1 : 0;
                at[1] += l[0] == p && l[2] != 2 || l[1] == p && l[2] != 1 ? 1 : 0;
                at[2] += l[0] == p && l[2] != 1 || l[1] == p && l[2] != 2 ? 1 : 0;
            }
            for (int what = 0; what <= 2; what++) {
                due("at(" + p + ", " + what + ")", x.at(p, what), at[what]);
            }
        }
    }

    private static void toldAnew() {
        says("A LINE is taken out, those behind it are one less: how many are left.");
        for (int cut = 0; cut < 12; cut++) {
            MarkerWalks x = ofPoints(10);
            List<int[]> lines = twelveLines();
            tellLines(x, lines);
            lines.remove(cut);
            due("cut(" + cut + ") of 12", x.cut(cut), 11);
            isNetwork(x, 10, lines);
            lines.add(new int[] {9, 4, 2});
            due("there is room for another one", x.line(9, 4, 2), 11);
            due("and no more", x.line(9, 4, 2), FULL);
            isNetwork(x, 10, lines);
        }
        MarkerWalks x = ofPoints(10);
        List<int[]> lines = twelveLines();
        tellLines(x, lines);
        for (int left = 11; left >= 0; left--) {
            lines.remove(left / 2);
            due("cut(" + left / 2 + ")", x.cut(left / 2), left);
        }
        isNetwork(x, 10, lines);
        due("cut(0) of none", x.cut(0), BEYOND);
        says("what is told anew leaves nothing of what was");
        x = ofPoints(10);
        lines = twelveLines();
        tellLines(x, lines);
        isNetwork(x, 10, lines);
        x.way(11, 0);
        lines.get(11)[2] = 0;
        x.way(0, 2);
        lines.get(0)[2] = 2;
        isNetwork(x, 10, lines);
        x.image();
        x.points(10);
        isNetwork(x, 10, List.of());
        tell(x, "b<a,j>c");
        isNetwork(x, 10, List.of(new int[] {1, 0, 2}, new int[] {9, 2, 1}));
        x = ofPoints(10);
        tellLines(x, lines);
        x.image();
        tell(x, "b<a,c>b");
        isNetwork(x, 3, List.of(new int[] {1, 0, 2}, new int[] {2, 1, 1}));
        x.restore();
        isNetwork(x, 10, lines);
    }

    private static MarkerWalks inGame(int rule) {
        MarkerWalks x = of("a-b,b-c,c>d");
        x.image();
        x.begin(rule, 0);
        return x;
    }

    private static void gameIsGone() {
        says("Whenever THE NETWORK is told anew in some part (points, line, way, cut, network, restore) THE GAME, if there is one, is gone.");
        for (int rule = 0; rule <= 4; rule++) {
            for (int act = 0; act < 6; act++) {
                MarkerWalks x = inGame(rule);
                due("there is a GAME", x.count(3), 1);
                tellAnew(x, act);
                due("no GAME behind act " + act, x.count(3), 0);
                due("game(0) behind act " + act, x.game(0), STATE);
                tellAnew(x, act);
                due("if there is one: none behind act " + act, x.count(3), 0);
            }
        }
        says("THE GAME is gone, also one that is OVER");
        for (int act = 0; act < 6; act++) {
            MarkerWalks x = inGame(0);
            x.play(1, 1, 20);
            due("over", x.game(6), 1);
            tellAnew(x, act);
            due("no GAME behind act " + act, x.count(3), 0);
        }
        says("what is no telling of THE NETWORK lets THE GAME stay");
        MarkerWalks x = inGame(1);
        x.go(0);
        x.image();
        x.seed(3);
        x.feed('a', 1);
        x.sheet(0, 8, 4);
        x.degrees(0, 0);
        x.starts(4);
        x.fight(5, 5, 0);
        x.kernel(-1);
        x.pairing(15, 1);
        due("count(3)", x.count(3), 1);
        due("game(4)", x.game(4), 1);
    }

    /** Each of them, so that THE NETWORK is the same as before where that can be. */
    private static void tellAnew(MarkerWalks x, int act) {
        switch (act) {
            case 0: x.points(4); break;
            case 1: x.line(0, 1, 0); break;
            case 2: x.way(0, x.ends(0, 2)); break;
            case 3: x.cut(0); break;
            case 4: tell(x, "a-b,b-c,c>d"); break;
            default: x.restore(); break;
        }
    }

    private static void degrees() {
        says("0 how many LINES are at it, 1 along how many it can be left (by their WAYS), 2 along how many come to");
        for (int n = 0; n <= 12; n++) {
            for (int way = 0; way <= 2; way++) {
                MarkerWalks x = ofPoints(10);
                for (int i = 0; i < n; i++) {
                    x.line(8, 9, way);
                }
                due("at(8, 0)", x.at(8, 0), n);
                due("at(9, 0)", x.at(9, 0), n);
                due("at(8, 1)", x.at(8, 1), way == 2 ? 0 : n);
                due("at(9, 1)", x.at(9, 1), way == 1 ? 0 : n);
                due("at(8, 2)", x.at(8, 2), way == 1 ? 0 : n);
                due("at(9, 2)", x.at(9, 2), way == 2 ? 0 : n);
                due("at(0, 0)", x.at(0, 0), 0);
            }
        }
    }

    // ---- promises 8 to 11

    private static void pairings() {
        says("A PAIRING of a set of POINTS: LINES (of any WAY) with both ends in the set");
        MarkerWalks x = of("a-b,b>c,d<c");
        int[] most = {0, 0, 0, 1, 0, 0, 1, 1, 0, 0, 0, 1, 1, 1, 1, 2};
        int[] least = {0, 0, 0, 1, 0, 0, 2, 1, 0, 0, 0, 1, 4, 4, 2, 5};
        for (int set = 0; set < 16; set++) {
            due("pairing(" + set + ", 0)", x.pairing(set, 0), most[set]);
            due("pairing(" + set + ", 1)", x.pairing(set, 1), least[set]);
        }
        says("no two of which have an end in common");
        x = of(sameLines("a-b", 12));
        due("12 LINES, 2 POINTS", x.pairing(3, 0), 1);
        due("the least of them", x.pairing(3, 1), 1);
        due("a star", of("a-b,a-c,a-d,a-e").pairing(31, 0), 1);

        says("of its PAIRINGS with most LINES the one that is least as a number");
        due("6 and 9: 6, though LINE 0 isn't in it", of("b-c,a-b,c-d,a-d").pairing(15, 1), 6);
        due("one LINE alone is less, but not most", of("b-c,a-b,c-d").pairing(15, 1), 6);
        x = of("a-b,a-b,a-b,a-b,a-b,a-b,a-b,c-d,e-f,g-h,h-i,i-j");
        due("five, with LINE 11", x.pairing(1023, 0), 5);
        due("five, with LINE 11", x.pairing(1023, 1), 1 | 1 << 7 | 1 << 8 | 1 << 9 | 1 << 11);
        due("without j", x.pairing(511, 1), 1 | 1 << 7 | 1 << 8 | 1 << 9);
        due("without g and j", x.pairing(511 - 64, 1), 1 | 1 << 7 | 1 << 8 | 1 << 10);

        says("PAIRINGS where there are no LINES");
        for (int n = 1; n <= 10; n++) {
            due("pairing(all, 0)", ofPoints(n).pairing((1 << n) - 1, 0), 0);
            due("pairing(all, 1)", ofPoints(n).pairing((1 << n) - 1, 1), 0);
            due("POINTS that there aren't", ofPoints(n).pairing(1 << n, 0), BEYOND);
        }
    }

    private static void neededPoints() {
        says("A POINT is NEEDED, if it is an end of a LINE of each PAIRING of all POINTS that has most LINES.");
        for (int n = 1; n <= 10; n++) {
            due("no LINES", ofPoints(n).needed(), 0);
        }
        for (int n = 2; n <= 10; n++) {
            int evenPlaces = 0b0101010101010 & (1 << n) - 1;
            due("a row of " + n, of(row(n)).needed(), n % 2 == 0 ? (1 << n) - 1 : evenPlaces);
        }
        for (int n = 3; n <= 10; n++) {
            due("a round of " + n, of(round(n)).needed(), n % 2 == 0 ? (1 << n) - 1 : 0);
        }
        due("a LINE twelve times", of(sameLines("i-j", 12)).needed(), 768);
        due("a star", of("j-a,j>b,j<c").needed(), 512);
        due("a LINE and a round of three", of("a-b,c-d,d-e,e-c").needed(), 3);
    }

    private static void kernels() {
        says("The i-th KERNEL (from 0); i -1: how many there are.");
        for (int n = 1; n <= 10; n++) {
            MarkerWalks x = ofPoints(n);
            due("no LINES: one", x.kernel(-1), 1);
            due("no LINES: all POINTS", x.kernel(0), (1 << n) - 1);
            due("there are not as many", x.kernel(1), NONE);
        }
        says("KERNELS in their order as numbers");
        MarkerWalks x = of("a-b,c-d,e-f,g-h,i-j");
        due("two for each LINE", x.kernel(-1), 32);
        for (int i = 0; i < 32; i++) {
            int set = 0;
            for (int pair = 0; pair < 5; pair++) {
                set |= 1 << 2 * pair + (i >> pair & 1);
            }
            due("kernel(" + i + ")", x.kernel(i), set);
        }
        due("kernel(32)", x.kernel(32), NONE);

        says("no LINE leads (by its WAY; both ways leads either way) from one of them to one of them");
        due("both ways, how many", of("a-b").kernel(-1), 2);
        due("both ways, the first", of("a-b").kernel(0), 1);
        due("both ways, the second", of("a-b").kernel(1), 2);
        due("a to b", of("a>b").kernel(0), 2);
        due("a to b, how many", of("a>b").kernel(-1), 1);
        due("b to a", of("a<b").kernel(0), 1);
        due("b to a, how many", of("a<b").kernel(-1), 1);
        due("there and back by two", of("a>b,a<b").kernel(-1), 2);
        says("and from each other POINT a LINE leads to one of them");
        due("a row one way", of("a>b,b>c,c>d").kernel(0), 10);
        due("a row the other way", of("a<b,b<c,c<d").kernel(0), 5);
        says("NONE: there are not as many.");
        for (int n = 3; n <= 9; n += 2) {
            String oneWay = round(n).replace('-', '>');
            due("an odd round one way has none", of(oneWay).kernel(-1), 0);
            due("an odd round one way", of(oneWay).kernel(0), NONE);
        }
        due("an even round one way has two", of(round(10).replace('-', '>')).kernel(-1), 2);
        due("an even round one way", of(round(10).replace('-', '>')).kernel(1), 682);
    }

    private static void sides() {
        says("in each part that hangs together (by LINES of any WAY) the least POINT is on side 0");
        for (int n = 1; n <= 10; n++) {
            due("no LINES: all", ofPoints(n).sides(), (1 << n) - 1);
        }
        for (int n = 2; n <= 10; n++) {
            due("a row of " + n, of(row(n)).sides(), 341 & (1 << n) - 1);
            due("a row by ways", of(row(n).replace('-', '<')).sides(), 341 & (1 << n) - 1);
        }
        due("j is behind b", of("j>b").sides(), 511);
        due("j - b - i", of("j-b,j-i").sides(), 511);
        due("from behind: d - c, c - b", of("d>c,c>b").sides(), 1 | 2 | 8);
        due("two parts", of("a-j,b-i,i-c").sides(), 1 | 2 | 4 | 8 | 16 | 32 | 64 | 128);
        says("NONE: there are no two sides.");
        for (int n = 3; n <= 10; n++) {
            due("a round of " + n, of(round(n)).sides(), n % 2 == 0 ? 341 & (1 << n) - 1 : NONE);
        }
        due("a round of three at the end", of("a-b,h<i,i>j,j<h").sides(), NONE);
        due("a round of three by ways", of("a>b,c>b,a<c").sides(), NONE);
        MarkerWalks x = of("a-b,b-c,c-a");
        x.cut(2);
        due("no round any more", x.sides(), 5);
    }

    // ---- promises 12 and 13

    private static void tape() {
        says("The n lowest bytes (1 .. 8) of a word, the lowest first, come to THE TAPE: how many there are.");
        String text = "a-b,b>c,c<d,d-e,";
        for (int n = 1; n <= 8; n++) {
            MarkerWalks x = new MarkerWalks();
            String whole = text.substring(0, 15);
            int there = 0;
            for (int i = 0; i < whole.length(); i += n) {
                long word = -1L;
                int many = Math.min(n, whole.length() - i);
                for (int j = many - 1; j >= 0; j--) {
                    word = word << 8 | whole.charAt(i + j);
                }
                there += many;
                due("feed(" + word + ", " + many + ")", x.feed(word, many), there);
            }
            due("the text by " + n, x.network(), 4);
            due("the last LINE", x.ends(3, 1), 4);
        }
        says("THE TAPE (bytes, at most 60)");
        for (int n = 1; n <= 8; n++) {
            MarkerWalks x = new MarkerWalks();
            for (int there = n; there <= 60; there += n) {
                due("feed(.., " + n + ")", x.feed(0, n), there);
            }
            due("no room for " + n, x.feed(0, n), FULL);
            due("count(2)", x.count(2), 60 / n * n);
            int rest = 60 % n;
            due("the rest finds room", rest == 0 ? 60 : x.feed(0, rest), 60);
            due("60, and no more", x.feed(0, 1), FULL);
        }
        says("THE TAPE, which is empty then");
        MarkerWalks x = new MarkerWalks();
        for (int i = 0; i < 7; i++) {
            x.feed(0x2C622D612C622D61L, 8);
        }
        x.feed(0x2C622D61L, 4);
        due("a full TAPE of 15 LINES", x.network(), -58);
        due("empty", x.count(2), 0);
        due("room again", x.feed(0x622D61L, 3), 3);
        due("network()", x.network(), 1);
        due("empty", x.count(2), 0);
        due("empty: no TEXT", x.network(), -10);
        due("THE NETWORK stays", x.count(1), 1);
    }

    private static void everyByteOfAText() {
        says("FAULT: the place (from 0) of the first byte with which no TEXT goes on");
        String whole = "b-c,d>a,e<f";
        for (int place = 0; place < whole.length(); place++) {
            for (int sign = 0; sign < 256; sign++) {
                StringBuilder text = new StringBuilder(whole);
                text.setCharAt(place, (char) sign);
                boolean letter = sign >= 'a' && sign <= 'j';
                boolean fits = place % 4 == 0 && letter || place % 4 == 1 && (sign == '-' || sign == '<' || sign == '>')
                    || place % 4 == 2 && letter && sign != whole.charAt(place - 2) || place % 4 == 3 && sign == ',';
                // a first letter that is as the second one: the second one is the FAULT
                boolean likeTheSecond = place % 4 == 0 && sign == whole.charAt(place + 2);
                int want = likeTheSecond ? -12 - place : fits ? 3 : -10 - place;
                due("network() with sign " + sign + " at " + place, tell(new MarkerWalks(), text.toString()), want);
            }
        }
        says("a letter as the one ahead of the sign");
        for (char c = 'a'; c <= 'j'; c++) {
            for (char sign : "-<>".toCharArray()) {
                due("network() of one to itself", tell(new MarkerWalks(), "" + c + sign + c), -12);
            }
        }
        says("the first FAULT of several");
        due("at 1 and at 6", tell(new MarkerWalks(), "a=b,c-c"), -11);
        due("a 13th LINE and none ahead", tell(new MarkerWalks(), sameLines("a-b", 11) + ",a-a,c-d"), -10 - 46);
        says("the first letter of a 13th LINE, too");
        String twelve = sameLines("a-b", 12);
        for (int sign = 0; sign < 256; sign++) {
            due("sign " + sign + " behind 12 LINES", tell(new MarkerWalks(), twelve + (char) sign), sign == ',' ? -58 : -57);
            due("sign " + sign + " as the 13th", tell(new MarkerWalks(), twelve + "," + (char) sign), -58);
        }
    }

    private static void everyLengthOfAText() {
        says("how many bytes there are, if it ends too early");
        String fifteen = sameLines("i>j", 15);
        for (int n = 0; n <= 59; n++) {
            int want = n >= 48 ? -58 : n % 4 == 3 ? (n + 1) / 4 : -10 - n;
            MarkerWalks x = new MarkerWalks();
            due("network() of " + n + " bytes", tell(x, fifteen.substring(0, n)), want);
            due("count(0)", x.count(0), want > 0 ? 10 : 4);
            due("count(1)", x.count(1), Math.max(want, 0));
        }
        says("-10 less the FAULT (no ERROR; THE NETWORK and THE GAME stay)");
        MarkerWalks x = begun("a-b,b-c", 0, 1);
        x.go(1);
        due("network()", tell(x, "a-b,b-c,c-c"), -20);
        due("game(1)", x.game(1), 2);
        due("count(1)", x.count(1), 2);
        for (int k = 1; k <= 6; k++) {
            due("told(" + k + ")", x.told(k), 0);
        }
    }

    private static void pointsOfAText() {
        says("There are as many POINTS as the greatest letter tells.");
        for (int greatest = 1; greatest <= 9; greatest++) {
            char c = (char) ('a' + greatest);
            MarkerWalks x = of("a-" + c);
            due("a-" + c, x.count(0), greatest + 1);
            due("ends(0, 1)", x.ends(0, 1), greatest);
            x = of(c + "-a");
            due(c + "-a", x.count(0), greatest + 1);
            due("ends(0, 0)", x.ends(0, 0), greatest);
            x = of(c + ">a,a<b");
            due(c + ">a,a<b", x.count(0), Math.max(1, greatest) + 1);
            x = of("a<b,b>a,a-" + c);
            due("the last letter", x.count(0), greatest + 1);
        }
        says("a sign (- both ways, > from the first to the second, < from the second to the first)");
        MarkerWalks x = of("b-a,b>a,b<a");
        for (int i = 0; i <= 2; i++) {
            due("ends(" + i + ", 0)", x.ends(i, 0), 1);
            due("ends(" + i + ", 1)", x.ends(i, 1), 0);
            due("ends(" + i + ", 2)", x.ends(i, 2), i);
        }
        says("a TEXT is THE NETWORK, in place of what was");
        x = of(sameLines("i-j", 12));
        due("network()", tell(x, "a-b"), 1);
        due("count(0)", x.count(0), 2);
        due("count(1)", x.count(1), 1);
        due("at(0, 0)", x.at(0, 0), 1);
    }

    // ---- promises 14 to 19

    private static void rules() {
        says("0 POINTS: along a LINE at the MARKER (of any WAY) to its other end, if that isn't MET");
        MarkerWalks x = begun("a>b,a<b,a-b", 0, 0);
        due("moves(0)", x.moves(0), 7);
        due("go(1)", x.go(1), 1);
        due("moves(0)", x.moves(0), 0);
        due("LINES GONE", x.game(3), 2);
        says("1 LINES: along a LINE at the MARKER (of any WAY) that isn't GONE");
        x = begun("a>b,a<b,a-b", 1, 0);
        due("moves(0)", x.moves(0), 7);
        due("go(1)", x.go(1), 0);
        due("moves(0)", x.moves(0), 5);
        due("go(2)", x.go(2), 0);
        due("to a POINT that is MET", x.game(1), 0);
        due("go(0)", x.go(0), 1);
        due("LINES GONE", x.game(3), 7);
        says("2 POINTS BY WAYS: as 0, but only as the LINE's WAY allows");
        due("from a", begun("a>b,a<b,a-b", 2, 0).moves(0), 5);
        due("from b", begun("a>b,a<b,a-b", 2, 1).moves(0), 6);
        x = begun("a>b,b-a", 2, 0);
        due("to a POINT that is MET", x.go(0), 1);
        says("3 LINES BY WAYS: as 1, but only as its WAY allows");
        x = begun("a>b,a<b,a-b,a>b", 3, 0);
        due("from a", x.moves(0), 13);
        due("go(0)", x.go(0), 0);
        due("from b", x.moves(0), 6);
        due("go(1)", x.go(1), 0);
        due("go(2)", x.go(2), 1);
        due("LINE 3 doesn't lead back", x.moves(0), 0);
        due("LINE 3 isn't GONE", x.game(3), 7);
        says("4 LAST LOSES: as 0");
        x = begun("a>b,a<b,a-b", 4, 1);
        due("moves(0)", x.moves(0), 7);
        due("go(0)", x.go(0), 1);
        due("moves(0)", x.moves(0), 0);
        says("The MARKER begins at a POINT, which is MET then");
        for (int rule = 0; rule <= 4; rule++) {
            for (int p = 0; p < 10; p++) {
                x = begun(round(10), rule, p);
                due("MARKER", x.game(1), p);
                due("POINTS MET", x.game(2), 1 << p);
                due("LINES GONE", x.game(3), 0);
                due("MOVES made", x.game(4), 0);
            }
        }
        says("it stands at the other end, which is MET, the LINE is GONE");
        for (int rule = 0; rule <= 4; rule++) {
            x = gone(round(10), rule, 9, 9);
            due("MARKER", x.game(1), 0);
            due("POINTS MET", x.game(2), 513);
            due("LINES GONE", x.game(3), 512);
        }
    }

    private static void turnsAndEnds() {
        says("PLAYERS 0 and 1 move in turn, 0 first");
        MarkerWalks x = begun(sameLines("a-b", 12), 1, 0);
        for (int i = 0; i < 12; i++) {
            due("game(4)", x.game(4), i);
            due("game(5)", x.game(5), i % 2);
            due("game(6)", x.game(6), 0);
            due("game(7)", x.game(7), 1);
            due("go(" + i + ")", x.go(i), i == 11 ? 1 : 0);
            due("moved(" + i + ")", x.moved(i), i);
        }
        due("all LINES GONE", x.game(3), 4095);
        due("who moves", x.game(5), 0);
        due("over", x.game(6), 1);
        due("has lost", x.game(7), 1);

        says("who has no MOVE has lost (RULE 4: has won): THE GAME is OVER");
        for (int rule = 0; rule <= 4; rule++) {
            for (int n = 1; n <= 10; n++) {
                x = ofPoints(n);
                due("begin(" + rule + ", " + (n - 1) + ")", x.begin(rule, n - 1), rule == 4 ? 1 : 0);
                due("game(6)", x.game(6), 1);
                due("game(7)", x.game(7), rule == 4 ? 0 : 1);
                due("moves(0)", x.moves(0), 0);
                due("moves(1)", x.moves(1), 0);
            }
            for (int n = 2; n <= 10; n++) {
                x = of(row(n));
                boolean odd = n % 2 == 0;
                due("begin(" + rule + ", 0), a row", x.begin(rule, 0), odd == (rule != 4) ? 1 : 0);
                for (int i = 0; i + 1 < n; i++) {
                    due("go(" + i + ")", x.go(i), i + 2 == n ? 1 : 0);
                }
                int last = (n - 2) % 2;
                due("game(7)", x.game(7), rule == 4 ? 1 - last : last);
            }
        }
        says("A GAME begins at a POINT, in place of one ahead");
        x = gone(row(5), 0, 0, 0, 1);
        due("begin(4, 4)", x.begin(4, 4), 1);
        int[] want = {4, 4, 16, 0, 0, 0, 0, 0};
        for (int i = 0; i < want.length; i++) {
            due("game(" + i + ")", x.game(i), want[i]);
        }
        due("moved(0)", x.moved(0), NONE);
        x.play(1, 1, 20);
        due("in place of one that is OVER", x.begin(0, 2), 0);
        due("game(6)", x.game(6), 0);
    }

    private static void takenBack() {
        says("The latest MOVE is taken back (z stays): how many are left.");
        for (int rule = 0; rule <= 4; rule++) {
            MarkerWalks x = begun(row(10), rule, 0);
            x.seed(MIN);
            x.play(5, 5, 20);
            int z = x.count(4);
            for (int left = 8; left >= 0; left--) {
                due("back()", x.back(), left);
                due("MARKER", x.game(1), left);
                due("POINTS MET", x.game(2), (1 << left + 1) - 1);
                due("LINES GONE", x.game(3), (1 << left) - 1);
                due("MOVES made", x.game(4), left);
                due("who moves", x.game(5), left % 2);
                due("not over", x.game(6), 0);
                due("moves(0)", x.moves(0), 1 << left);
                due("moved(" + left + ")", x.moved(left), NONE);
                due("z", x.count(4), z);
            }
            due("no MOVE", x.back(), NONE);
        }
        says("taken back, and another one made");
        MarkerWalks x = gone("a-b,a-c,c-d", 0, 0, 1, 2);
        x.back();
        x.back();
        due("go(0)", x.go(0), 1);
        due("moved(0)", x.moved(0), 0);
        due("moved(1)", x.moved(1), NONE);
        due("POINTS MET", x.game(2), 3);
    }

    private static void sets() {
        says("Sets (of POINTS, of LINES) are told by bits.");
        MarkerWalks x = begun("i-h,i-h,i-h,i-h,i-h,i-h,i-h,i-h,i-h,i-h,i-h,i-j", 0, 8);
        due("moves(0)", x.moves(0), 4095);
        due("moves(1)", x.moves(1), 4095);
        due("reach()", x.reach(), 640);
        due("starts(0)", x.starts(0), 256);
        x.go(11);
        due("POINTS MET", x.game(2), 768);
        due("LINES GONE", x.game(3), 2048);
        says("MOVES (a set): all (what 0), those that win (1)");
        x = begun("a-b,b-c,a-d", 0, 0);
        due("moves(0)", x.moves(0), 5);
        due("moves(1)", x.moves(1), 4);
        x = begun("a-b,b-c,a-d", 4, 0);
        due("RULE 4: moves(0)", x.moves(0), 5);
        due("RULE 4: moves(1)", x.moves(1), 1);
    }

    // ---- promises 20 to 22

    private static void lengths() {
        says("LONG: 0 without a MOVE");
        for (int rule = 0; rule <= 4; rule++) {
            MarkerWalks x = ofPoints(1);
            x.begin(rule, 0);
            due("worth(0)", x.worth(0), 0);
            x = gone("a-b", rule, 0, 0);
            due("worth(0), over", x.worth(0), 0);
        }
        says("of who WINS 1 more than the least LONG behind MOVES that win");
        due("1 and 3: 1", begun("a-b,a-c,c-d,d-e", 0, 0).worth(0), 1);
        due("1 behind a MOVE that doesn't win, 2 behind one that does", begun("a-b,b-c,a-d,d-e,e-f", 0, 0).worth(0), 3);
        due("RULE 4: 2 and 4", begun("a-b,b-c,a-d,d-e,e-f,f-g", 4, 0).worth(0), 2);
        says("of who doesn't 1 more than the greatest LONG behind all MOVES");
        due("2 and 4: 4", begun("a-b,b-c,a-d,d-e,e-f,f-g", 0, 0).worth(0), 4);
        due("RULE 4: 1 and 3", begun("a-b,a-c,c-d,d-e", 4, 0).worth(0), 3);
        says("LONG as great as can be");
        for (int rule = 0; rule <= 4; rule++) {
            for (int n = 2; n <= 10; n++) {
                due("a row of " + n, begun(row(n), rule, 0).worth(0), n - 1);
            }
        }
        for (int n = 1; n <= 12; n++) {
            due(n + " LINES", begun(sameLines("a-b", n), 1, 0).worth(0), n);
            due(n + " LINES by ways", begun(sameLines("a-b", n), 3, 1).worth(0), n);
            due(n + " LINES, to POINTS", begun(sameLines("a-b", n), 0, 0).worth(0), 1);
        }
    }

    private static void nims() {
        says("NIM: the least whole number from 0 on that isn't the NIM behind any MOVE");
        for (int rule = 0; rule <= 3; rule++) {
            MarkerWalks x = ofPoints(10);
            x.begin(rule, 0);
            due("without a MOVE", x.worth(1), 0);
            due("a MOVE to 0", begun("a-b", rule, 0).worth(1), 1);
            due("a MOVE to 1 alone", begun("a-b,b-c", rule, 0).worth(1), 0);
            due("MOVES to 0 and 1", begun("a-b,b-c,a-d", rule, 0).worth(1), 2);
            due("MOVES to 0, 1 and 2", begun("a-b,a-c,c-d,a-e,e-f,e-g,g-h", rule, 0).worth(1), 3);
        }
        for (int p = 0; p < 5; p++) {
            due("each to all behind it", begun("a>b,a>c,a>d,a>e,b>c,b>d,b>e,c>d,c>e,d>e", 2, p).worth(1), 4 - p);
        }
        due("MOVES to 0 and 2", begun("a>c,a>e,c>d,c>e,d>e", 2, 0).worth(1), 1);
        due("MOVES to 1 and 2", begun("a>c,a>d,c>d,c>e,d>e", 2, 0).worth(1), 0);
        for (int n = 1; n <= 12; n++) {
            due(n + " LINES", begun(sameLines("a-b", n), 1, 0).worth(1), n % 2);
        }
        says("KIND (what 1): RULE 4");
        due("worth(1)", begun("a-b", 4, 0).worth(1), KIND);
        due("worth(0)", begun("a-b", 4, 0).worth(0), 1);
    }

    /** A NETWORK and a RULE, searched through by the document's words alone; nothing that was found is kept. */
    private static final class Plain {
        final List<int[]> lines = new ArrayList<>();
        int rule;

        List<Integer> moves(int marker, int met, int gone) {
            List<Integer> all = new ArrayList<>();
            for (int i = 0; i < lines.size(); i++) {
                int[] l = lines.get(i);
                boolean byWays = rule == 2 || rule == 3;
                boolean onward = l[0] == marker && (!byWays || l[2] != 2);
                boolean backward = l[1] == marker && (!byWays || l[2] != 1);
                boolean free = rule == 1 || rule == 3 ? (gone >> i & 1) == 0 : (met >> other(i, marker) & 1) == 0;
                if ((onward || backward) && free) {
                    all.add(i);
                }
            }
            return all;
        }

        int other(int line, int point) {
            return lines.get(line)[0] == point ? lines.get(line)[1] : lines.get(line)[0];
        }

        /** Whether who moves WINS (1 or 0), LONG, NIM. */
        int[] worth(int marker, int met, int gone) {
            List<Integer> open = moves(marker, met, gone);
            if (open.isEmpty()) {
                return new int[] {rule == 4 ? 1 : 0, 0, 0};
            }
            int least = MAX;
            int greatest = 0;
            int nims = 0;
            for (int i : open) {
                int end = other(i, marker);
                int[] behind = worth(end, met | 1 << end, gone | 1 << i);
                least = behind[0] == 0 ? Math.min(least, behind[1]) : least;
                greatest = Math.max(greatest, behind[1]);
                nims |= 1 << behind[2];
            }
            int nim = Integer.numberOfTrailingZeros(~nims);
            return least < MAX ? new int[] {1, least + 1, nim} : new int[] {0, greatest + 1, nim};
        }
    }

    private static void searchedPlainly() {
        says("Who moves WINS, if there is a MOVE behind which who moves then doesn't win: ten POINTS, twelve LINES");
        Random random = new Random(10);
        for (int run = 0; run < 60; run++) {
            Plain plain = new Plain();
            MarkerWalks x = ofPoints(10);
            for (int i = 0; i < 12; i++) {
                int a = random.nextInt(10);
                int[] l = {a, (a + 1 + random.nextInt(9)) % 10, random.nextInt(3)};
                plain.lines.add(l);
                x.line(l[0], l[1], l[2]);
            }
            for (int rule = 0; rule <= 4; rule++) {
                plain.rule = rule;
                int starts = 0;
                for (int p = 0; p < 10; p++) {
                    int[] worth = plain.worth(p, 1 << p, 0);
                    due("begin(" + rule + ", " + p + ")", x.begin(rule, p), worth[0]);
                    due("worth(0)", x.worth(0), worth[1]);
                    due("worth(1)", x.worth(1), rule == 4 ? KIND : worth[2]);
                    starts |= worth[0] << p;
                }
                due("starts(" + rule + ")", x.starts(rule), starts);
            }
        }
        says("LONG and NIM are the same behind starts");
        for (int n = 11; n <= 12; n++) {
            MarkerWalks x = begun(sameLines("a-b", n), 1, 0);
            x.starts(0);
            due("worth(0)", x.worth(0), n);
            x.starts(0);
            due("worth(1)", x.worth(1), n % 2);
            x.starts(0);
            due("moves(1)", x.moves(1), n == 11 ? 2047 : 0);
            x.starts(0);
            due("game(7)", x.game(7), (n + 1) % 2);
            x.starts(0);
            due("tells(7)", x.tells(7), 0);
            x.starts(0);
            due("fight(7, 7, 1)", x.fight(7, 7, 1), n);
        }
    }

    private static void reaches() {
        says("POINTS at which the MARKER can stand behind some MOVES, one or more, from here on");
        for (int rule = 0; rule <= 4; rule++) {
            MarkerWalks x = ofPoints(10);
            x.begin(rule, 5);
            due("no MOVE: not where it stands", x.reach(), 0);
            for (int n = 2; n <= 10; n++) {
                x = begun(row(n), rule, 0);
                due("a row of " + n, x.reach(), (1 << n) - 2);
                x.go(0);
                due("from here on", x.reach(), (1 << n) - 4);
                due("all the row", x.play(1, 1, 20), n - 2);
                due("over", x.reach(), 0);
            }
            boolean lines = rule == 1 || rule == 3;
            due("a round", begun(round(10), rule, 3).reach(), lines ? 1023 : 1023 - 8);
            due("two LINES there and back", begun("a-b,a-b", rule, 0).reach(), lines ? 3 : 2);
            due("behind a POINT that is MET", gone("a-b,b-c,c-d,a-d,d-e", rule, 0, 0).reach(), lines ? 29 : 28);
            due("beyond what hangs together", begun("a-b,c-d", rule, 0).reach(), 2);
        }
        due("by ways, POINTS", begun("a>b,b>c,d>c", 2, 0).reach(), 6);
        due("by ways, LINES", begun("a>b,b>c,d>c", 3, 0).reach(), 6);
        due("by any ways", begun("a>b,b>c,d>c", 0, 0).reach(), 14);
        due("against the only way", begun("a<b", 2, 0).reach(), 0);
        says("the MARKER comes back to where it stands only by LINES that aren't GONE");
        due("a tail to a round of three", begun("a-b,b-c,c-d,d-b", 1, 0).reach(), 14);
        due("from the round's POINT", begun("a-b,b-c,c-d,d-b", 1, 1).reach(), 15);
        due("in the round", gone("a-b,b-c,c-d,d-b", 1, 1, 1).reach(), 11);
    }

    private static void startsOfAll() {
        says("POINTS (a set) from which who begins a GAME by a RULE WINS");
        for (int n = 1; n <= 10; n++) {
            for (int rule = 0; rule <= 4; rule++) {
                due("starts(" + rule + "), no LINES", ofPoints(n).starts(rule), rule == 4 ? (1 << n) - 1 : 0);
            }
        }
        MarkerWalks x = of(sameLines("i-j", 12));
        due("12 LINES, to POINTS", x.starts(0), 768);
        due("12 LINES", x.starts(1), 0);
        due("12 LINES, to POINTS by ways", x.starts(2), 768);
        due("12 LINES by ways", x.starts(3), 0);
        due("12 LINES, last loses", x.starts(4), 255);
        x.cut(0);
        due("11 LINES", x.starts(1), 768);
        due("11 LINES by ways", x.starts(3), 768);
        says("starts is the same with and without a GAME, and lets it stay");
        for (int rule = 0; rule <= 4; rule++) {
            x = of("a-b,b>c,c-d,d<a,b-d");
            int[] without = new int[5];
            for (int r = 0; r <= 4; r++) {
                without[r] = x.starts(r);
                for (int p = 0; p < 4; p++) {
                    due("begin(" + r + ", " + p + ")", x.begin(r, p), without[r] >> p & 1);
                }
            }
            x.begin(rule, 1);
            x.go(0);
            int[] was = {x.moves(0), x.moves(1), x.worth(0), x.game(7), x.reach()};
            for (int r = 0; r <= 4; r++) {
                due("starts(" + r + ")", x.starts(r), without[r]);
                int[] is = {x.moves(0), x.moves(1), x.worth(0), x.game(7), x.reach()};
                for (int i = 0; i < is.length; i++) {
                    due("THE GAME behind starts(" + r + ")", is[i], was[i]);
                }
            }
        }
    }

    // ---- promises 23 to 25

    private static void leastAndGreatest() {
        says("1 LEAST: the MOVE with the least LINE. 2 GREATEST: with the greatest LINE.");
        MarkerWalks x = begun(sameLines("a-b", 12), 1, 0);
        for (int i = 0; i < 6; i++) {
            due("LEAST", x.tells(1), i);
            due("GREATEST", x.tells(2), 11 - i);
            x.go(i);
            x.go(11 - i);
        }
        due("LEAST without a MOVE", x.tells(1), NONE);
        due("GREATEST without a MOVE", x.tells(2), NONE);
        x = begun("b-c,a-b,b-d,a-c,c-d", 0, 0);
        due("LEAST of those at the MARKER", x.tells(1), 1);
        due("GREATEST of those at the MARKER", x.tells(2), 3);
    }

    private static void bestAndPair() {
        says("3 BEST: with the least LINE of those that win; else none");
        due("the only one that wins", begun("a-b,b-c,a-d", 0, 0).tells(3), 2);
        due("the least of two", begun("a-b,b-c,a-d,a-e", 0, 0).tells(3), 2);
        due("LINE 11", begun(sameLines("a-c", 10) + ",c-d,a-b", 0, 0).tells(3), 11);
        due("none wins", begun("a-b,b-c", 0, 0).tells(3), NONE);
        due("RULE 4: none wins", begun("a-b", 4, 0).tells(3), NONE);
        due("RULE 4: won without a MOVE", gone("a-b", 4, 0, 0).tells(3), NONE);
        says("4 PAIR: the LINE at the MARKER of THE PAIRING of the POINTS that aren't MET and the MARKER's");
        due("at the MARKER", begun("a-b,b-c", 0, 0).tells(4), 0);
        due("a POINT that is MET doesn't count", gone("a-b,b-c,c-d", 0, 0, 0).tells(4), 1);
        due("the MARKER's own does", gone("a-b,b-c", 0, 0, 0).tells(4), 1);
        due("RULE 1: to a POINT that is MET never", gone("a-b,a-b", 1, 0, 0).tells(4), NONE);
        due("LINE 11", begun(sameLines("c-d", 11) + ",a-b", 0, 0).tells(4), 11);
        says("if that is a MOVE; else none");
        due("the MARKER isn't at one", begun("a-b,b-c", 0, 2).tells(4), NONE);
        due("by ways: against its way", begun("a<b,a-c", 2, 0).tells(4), NONE);
        due("by ways: as it leads", begun("a>b,a-c", 2, 0).tells(4), 0);
        due("of any way", begun("a<b,a-c", 0, 0).tells(4), 0);
        due("LINES by ways: against its way", begun("a<b,a-c", 3, 0).tells(4), NONE);
        due("without a MOVE", gone("a-b", 0, 0, 0).tells(4), NONE);
    }

    private static void draws() {
        says("5 DRAW: z becomes z * 1103515245 + 12345 (an int; 1 at first)");
        MarkerWalks x = begun("a-b", 0, 0);
        due("z at first", x.count(4), 1);
        due("tells(5)", x.tells(5), 0);
        due("z then", x.count(4), 1103527590);
        x.tells(5);
        due("z wraps around", x.count(4), -1770082073);
        int[] seeds = {0, 1, -1, 2, 3, MIN, MAX, MIN + 1, MAX - 1, 77, 1 << 30, 1 << 24, 255, 256, -256, 12345, -12345};
        says("z >>> 8 leaves by how many there are (from 0), of MOVES by their LINES");
        for (int many = 1; many <= 12; many++) {
            for (int seed : seeds) {
                // the LINES at b are no MOVES, so that a place isn't a LINE's number
                x = begun(many == 12 ? sameLines("a-b", 12) : sameLines("b-c", 12 - many) + "," + sameLines("a-b", many), 1, 0);
                x.seed(seed);
                int z = seed;
                for (int i = 0; i < 6; i++) {
                    z = z * 1103515245 + 12345;
                    long place = (z & 0xFFFFFFFFL) / 256 % many;
                    due("DRAW of " + many + " behind seed " + seed, x.tells(5), 12 - many + place);
                    due("z", x.count(4), z);
                }
            }
        }
        says("none (z stays) without MOVES");
        x = gone("a-b", 1, 0, 0);
        for (int seed : seeds) {
            x.seed(seed);
            due("tells(5)", x.tells(5), NONE);
            due("z", x.count(4), seed);
            due("tells(5555)", x.tells(5555), NONE);
            due("z", x.count(4), seed);
            due("play(5, 5, 20)", x.play(5, 5, 20), 0);
            due("z", x.count(4), seed);
        }
        says("z goes on by DRAW, by no other PLAN");
        x = begun("a-b,b-c,a-d", 0, 0);
        for (int code : new int[] {1, 2, 3, 4, 6, 7, 51, 5553, 15}) {
            x.seed(9);
            x.tells(code);
            due("z behind tells(" + code + ")", x.count(4), code == 15 ? 9 * 1103515245 + 12345 : 9);
        }
    }

    private static void narrowAndSlow() {
        says("6 NARROW: the MOVE behind which there are fewest MOVES, of several the one with the least LINE");
        due("2, 1 and 0", begun("a-b,b-c,b-d,a-e,e-f,a-g", 0, 0).tells(6), 5);
        due("1, 0 and 0", begun("a-b,b-c,a-d,a-e", 0, 0).tells(6), 2);
        due("by ways: those that lead back don't count", begun("a>b,b<c,b<d,a>e,e>f", 2, 0).tells(6), 0);
        due("LINES: those that lead back count", begun("a-b,a-b,a-b,a-c,c-d", 1, 0).tells(6), 3);
        due("11 MOVES behind each", begun(sameLines("a-b", 12), 1, 0).tells(6), 0);
        due("the only one", begun("a-b,b-c,b-d", 0, 0).tells(6), 0);
        due("without a MOVE", gone("a-b", 0, 0, 0).tells(6), NONE);
        says("7 SLOW: the MOVE behind which LONG is greatest, of several the one with the least LINE");
        due("0, 1 and 2", begun("a-b,a-c,c-d,a-e,e-f,f-g", 0, 0).tells(7), 3);
        due("also if it doesn't win", begun("a-b,a-c,c-d", 0, 0).tells(7), 1);
        due("1 and 1", begun("a-b,b-c,a-d,d-e", 0, 0).tells(7), 0);
        due("0 behind the only one", begun("a-b", 0, 0).tells(7), 0);
        due("11 behind each", begun(sameLines("a-b", 12), 1, 0).tells(7), 0);
        due("RULE 4: 0 and 2", begun("a-b,a-c,c-d,d-e", 4, 0).tells(7), 1);
        due("without a MOVE", gone("a-b", 0, 0, 0).tells(7), NONE);
    }

    private static boolean isCode(int code) {
        return Integer.toString(code).matches("[1-7]{1,4}");
    }

    private static void everyCode() {
        says("A PLAN by a code (1 to 4 digits, each 1 to 7)");
        MarkerWalks x = null;
        for (int code = -1200; code <= 12000; code++) {
            if (x == null || code % 100 == 0) {
                x = begun("a-b", 0, 0);
            }
            due("tells(" + code + ")", x.tells(code), isCode(code) ? 0 : BEYOND);
            due("fight(" + code + ", 1, 1)", x.fight(code, 1, 1), isCode(code) ? 1 : BEYOND);
            due("fight(1, " + code + ", 1)", x.fight(1, code, 1), isCode(code) ? 1 : BEYOND);
        }
        for (int code = -120; code <= 12000; code++) {
            if (code % 100 == 0) {
                x = gone("a-b", 0, 0, 0);
            }
            due("play(" + code + ", 1, 1)", x.play(code, 1, 1), isCode(code) ? 0 : BEYOND);
            due("play(1, " + code + ", 1)", x.play(1, code, 1), isCode(code) ? 0 : BEYOND);
        }
    }

    private static void plansBehindPlans() {
        says("the SIMPLE one of the last digit; if that tells none, that of the digit ahead of it, and so on");
        // at c neither BEST nor PAIR tells one; LEAST tells 1, GREATEST 3
        String text = "a-b,c-b,c-b,c-b";
        MarkerWalks x = begun(text, 0, 2);
        int[] none = {3, 4, 33, 34, 43, 44, 343, 434, 444, 3434, 4343, 3333};
        for (int code : none) {
            due("tells(" + code + ")", x.tells(code), NONE);
        }
        int[] least = {1, 13, 14, 134, 143, 1343, 1434, 2143, 2214, 1221, 2341, 4431};
        int[] greatest = {2, 23, 24, 234, 243, 2343, 2434, 1243, 1124, 1342, 3342};
        for (int code : least) {
            due("tells(" + code + ")", x.tells(code), 1);
        }
        for (int code : greatest) {
            due("tells(" + code + ")", x.tells(code), 3);
        }
        due("z", x.count(4), 1);
        for (int code : new int[] {5, 53, 534, 5343, 1534, 2253, 3543, 5554}) {
            x.seed(1);
            due("DRAW, at last: tells(" + code + ")", x.tells(code), 1 + (1103527590 >>> 8) % 3);
            due("once", x.count(4), 1103527590);
        }
        says("Who goes by a PLAN that tells none takes LEAST.");
        for (int code : none) {
            x = begun(text, 0, 2);
            due("play(" + code + ", 2, 1)", x.play(code, 2, 1), 1);
            due("moved(0)", x.moved(0), 1);
            // PLAYER 1 stands at c as PLAYER 0 did; d is MET, so that the LINE there is no MOVE and in no PAIRING
            x = gone(text + ",d-c", 0, 3, 4);
            due("PLAYER 1: tells(" + code + ")", x.tells(code), NONE);
            due("fight(2, " + code + ", 1)", x.fight(2, code, 1), 2);
            due("play(2, " + code + ", 1)", x.play(2, code, 1), 1);
            due("moved(1)", x.moved(1), 1);
        }
        x = begun("b-c,d-e,a-d,a-b", 0, 0);
        due("BEST tells none", x.tells(3), NONE);
        due("play(3, 3, 1)", x.play(3, 3, 1), 1);
        due("LEAST of those at the MARKER", x.moved(0), 2);
        x = begun("b-c,e-f,a-d,a-e,a-b", 0, 3);
        x.go(2);
        due("PLAYER 1: BEST tells none", x.tells(3), NONE);
        due("play(2, 3, 1)", x.play(2, 3, 1), 1);
        due("LEAST, by PLAYER 1", x.moved(1), 3);
    }

    private static void plays() {
        says("n MOVES (1 .. 20; fewer, if it is OVER ahead) are made: how many");
        for (int n = 1; n <= 20; n++) {
            MarkerWalks x = begun(sameLines("a-b", 12), 1, 0);
            due("play(1, 2, " + n + ")", x.play(1, 2, n), Math.min(n, 12));
            due("game(4)", x.game(4), Math.min(n, 12));
            due("game(6)", x.game(6), n >= 12 ? 1 : 0);
            due("the rest", x.play(1, 2, 20), 12 - Math.min(n, 12));
            due("OVER: none", x.play(1, 2, 20), 0);
            due("OVER: none of one", x.play(1, 2, 1), 0);
        }
        says("PLAYER 0 by one PLAN, 1 by another one");
        MarkerWalks x = begun(sameLines("a-b", 12), 1, 0);
        x.play(1, 2, 3);
        due("PLAYER 0: LEAST", x.moved(0), 0);
        due("PLAYER 1: GREATEST", x.moved(1), 11);
        due("PLAYER 0: LEAST", x.moved(2), 1);
        x.play(1, 2, 1);
        due("PLAYER 1, who is to move: GREATEST", x.moved(3), 10);
        x.back();
        x.play(2, 1, 2);
        due("PLAYER 1: LEAST", x.moved(3), 2);
        due("PLAYER 0: GREATEST", x.moved(4), 10);
    }

    private static void fights() {
        says("The same in thought (z, too) till it is OVER");
        Random random = new Random(25);
        for (int run = 0; run < 300; run++) {
            MarkerWalks x = ofPoints(2 + random.nextInt(9));
            for (int i = random.nextInt(14); i > 0; i--) {
                x.line(random.nextInt(x.count(0)), random.nextInt(x.count(0)), random.nextInt(3));
            }
            x.begin(random.nextInt(5), random.nextInt(x.count(0)));
            x.play(5, 5, 1 + random.nextInt(3));
            x.seed(random.nextInt());
            int code = 1 + random.nextInt(7) + (random.nextBoolean() ? 10 + 10 * random.nextInt(7) : 0);
            int other = 1 + random.nextInt(7) + (random.nextBoolean() ? 50 : 0);
            int z = x.count(4);
            int made = x.game(4);
            int marker = x.game(1);
            int winner = x.fight(code, other, 0);
            int many = x.fight(code, other, 1);
            due("z", x.count(4), z);
            due("game(4)", x.game(4), made);
            due("game(1)", x.game(1), marker);
            due("fight(" + code + ", " + other + ", 1)", many, x.play(code, other, 20));
            due("fight(" + code + ", " + other + ", 0)", winner, x.game(7));
            due("over", x.game(6), 1);
            due("OVER: who has won", x.fight(code, other, 0), winner);
            due("OVER: no MOVES", x.fight(code, other, 1), 0);
        }
        says("0 which PLAYER has won, 1 how many MOVES were made from here on");
        for (int n = 1; n <= 12; n++) {
            due(n + " LINES", begun(sameLines("a-b", n), 1, 0).fight(1, 1, 1), n);
            due(n + " LINES", begun(sameLines("a-b", n), 1, 0).fight(1, 1, 0), (n + 1) % 2);
        }
        MarkerWalks x = gone(row(6), 4, 0, 0, 1);
        due("from here on", x.fight(1, 1, 1), 3);
        due("RULE 4: who can't move", x.fight(1, 1, 0), 1);
    }

    // ---- promises 26 and 27

    private static void trees() {
        says("THE TREE: its ROOT alone, where THE GAME is OVER");
        for (int rule = 0; rule <= 4; rule++) {
            MarkerWalks x = ofPoints(1);
            x.begin(rule, 0);
            due("tree(0)", x.tree(0), 1);
            due("tree(1)", x.tree(1), 1);
            due("tree(2)", x.tree(2), 0);
            due("node(0)", x.node(0), NONE);
            due("node(1)", x.node(1), NONE);
        }
        says("behind what comes by BEST alone, where who is to WIN moves");
        nodes(begun("a-b,b-c,a-d,a-e", 0, 0), 1, 1, 2);
        nodes(begun("a-b,b-c,c-d,a-e,e-f", 0, 0), 1, 3, 0, 1, 2);
        says("behind all MOVES by their LINES, where the other one does");
        nodes(begun("b-e,c-d,a-c,a-b", 0, 0), 2, 2, 2, 1, 3, 0);
        nodes(begun("a-b,a-b,a-b", 1, 0), 2, 3, 0, 1, 2, 2, 1);
        says("NODES are numbered from the ROOT (0) on, each ahead of what is behind it, the first LINE first");
        nodes(begun("a-b,a-c,b-d,d-e,d-f,e-g,f-h,c-i", 0, 0), 3, 4, 0, 2, 3, 5, 4, 6, 1, 7);
        says("2 by how many MOVES at most one comes down");
        for (int n = 1; n <= 10; n++) {
            MarkerWalks x = n == 1 ? ofPoints(1) : of(row(n));
            x.begin(0, 0);
            due("a row of " + n + ": tree(0)", x.tree(0), n);
            due("a row of " + n + ": tree(1)", x.tree(1), 1);
            due("a row of " + n + ": tree(2)", x.tree(2), n - 1);
        }
        says("THE TREE, from how THE GAME is");
        MarkerWalks x = begun("a-b,a-c,b-d,c-e", 0, 0);
        due("tree(0)", x.tree(0), 5);
        x.go(1);
        due("tree(0), a MOVE on", x.tree(0), 2);
        due("node(1), a MOVE on", x.node(1), 3);
        x.back();
        due("tree(0), taken back", x.tree(0), 5);
        due("node(1), taken back", x.node(1), 0);
        says("RULE 4: who is to WIN stands without a MOVE");
        nodes(begun("a-b", 4, 0), 1, 1, 0);
        nodes(begun("a-b,b-c,a-d", 4, 0), 1, 2, 0, 1);
    }

    /** The leaves, the depth, and the LINES of the NODES behind the ROOT. */
    private static void nodes(MarkerWalks x, int leaves, int depth, int... lines) {
        due("tree(0)", x.tree(0), lines.length + 1);
        due("tree(1)", x.tree(1), leaves);
        due("tree(2)", x.tree(2), depth);
        due("node(0)", x.node(0), NONE);
        for (int i = 0; i < lines.length; i++) {
            due("node(" + (i + 1) + ")", x.node(i + 1), lines[i]);
        }
        due("node(" + (lines.length + 1) + ")", x.node(lines.length + 1), NONE);
        due("node(-1)", x.node(-1), NONE);
    }

    private static void fullTrees() {
        says("FULL: it has more than 300 NODES.");
        int[] sizes = {2, 5, 6, 25, 26, 157, 158};
        for (int n = 1; n <= 12; n++) {
            MarkerWalks x = begun(sameLines("a-b", n), 1, 0);
            due(n + " LINES: tree(0)", x.tree(0), n <= 7 ? sizes[n - 1] : FULL);
            due(n + " LINES: tree(1)", x.tree(1), n <= 7 ? new int[] {1, 2, 2, 8, 8, 48, 48}[n - 1] : FULL);
            due(n + " LINES: tree(2)", x.tree(2), n <= 7 ? n : FULL);
            due(n + " LINES: node(1)", x.node(1), n <= 7 ? 0 : FULL);
            due(n + " LINES: node(0)", x.node(0), n <= 7 ? NONE : FULL);
        }
        MarkerWalks x = begun("d-b,d-b,d-a,d-a,c-a,d-c,a-d,d-a,d-c", 1, 0);
        due("300 NODES: tree(0)", x.tree(0), 300);
        due("300 NODES: the last", x.node(299), 5);
        due("300 NODES: no more", x.node(300), NONE);
        x = begun("b-c,b-a,c-b,d-a,a-b,c-a,c-a,d-a", 1, 0);
        for (int i = 0; i <= 2; i++) {
            due("301 NODES: tree(" + i + ")", x.tree(i), FULL);
        }
        for (int i : new int[] {0, 1, 299, 300, 301, -1}) {
            due("301 NODES: node(" + i + ")", x.node(i), FULL);
        }
        x.go(1);
        due("a part of it isn't FULL", x.tree(0) > 0 ? 1 : 0, 1);
        x.back();
        due("301 NODES again", x.tree(0), FULL);
    }

    // ---- promises 28 to 33

    private static void sheetSizes() {
        says("SHEETS 0 .. 3 are rows of 8, 16 or 32 bits, at most 24 numbers, or MISSING (as at first).");
        for (int bits : new int[] {8, 16, 32}) {
            for (int n = 0; n <= 24; n++) {
                int s = n % 4;
                MarkerWalks x = new MarkerWalks();
                due("missing at first", x.number(s, 0), MISSING);
                due("sheet(" + s + ", " + bits + ", " + n + ")", x.sheet(s, bits, n), 1);
                due("count(5)", x.count(5), 1);
                for (int i = 0; i < n; i++) {
                    due("all 0", x.number(s, i), 0);
                    x.put(s, i, i + 1);
                }
                for (int i = 0; i < n; i++) {
                    due("number(" + s + ", " + i + ")", x.number(s, i), i + 1);
                }
                due("no such number", x.number(s, n), BEYOND);
                due("no such number", x.put(s, n, 1), BEYOND);
                due("made anew", x.sheet(s, bits, 24), 1);
                for (int i = 0; i < 24; i++) {
                    due("all 0 anew", x.number(s, i), 0);
                }
            }
            due("25", new MarkerWalks().sheet(0, bits, 25), BEYOND);
            due("-1", new MarkerWalks().sheet(0, bits, -1), STATE);
        }
        says("0: it is MISSING, n doesn't matter");
        for (int n : new int[] {0, 24, 25, -1, MIN, MAX}) {
            MarkerWalks x = new MarkerWalks();
            for (int s = 0; s <= 3; s++) {
                x.sheet(s, 8, 24);
                x.put(s, 0, 5);
            }
            for (int s = 0; s <= 3; s++) {
                due("sheet(" + s + ", 0, " + n + ")", x.sheet(s, 0, n), 1);
                due("number(" + s + ", 0)", x.number(s, 0), MISSING);
                due("count(5)", x.count(5), 3 - s);
                due("missing already", x.sheet(s, 0, n), 1);
            }
            x.sheet(0, 8, 1);
            due("there again, all 0", x.number(0, 0), 0);
        }
    }

    private static void numbersByTheirLowestBits() {
        says("Number i of a SHEET becomes v (its lowest bits)");
        int[] around = {0, 1 << 7, 1 << 8, 1 << 15, 1 << 16, 1 << 24, MIN, -1 << 7, -1 << 8, -1 << 15, -1 << 16, 0x12345678, 0x87654321};
        for (int base : around) {
            MarkerWalks x = new MarkerWalks();
            x.sheet(0, 8, 24);
            x.sheet(1, 16, 24);
            x.sheet(2, 32, 24);
            for (int v = base - 2; v != base + 3; v++) {
                for (int s = 0; s <= 2; s++) {
                    due("put(" + s + ", 23, " + v + ")", x.put(s, 23, v), 1);
                }
                due("8 bits of " + v, x.number(0, 23), (byte) v);
                due("16 bits of " + v, x.number(1, 23), (short) v);
                due("32 bits of " + v, x.number(2, 23), v);
            }
            due("the number ahead stays", x.number(0, 22), 0);
        }
        says("(A number may be as low as ERRORS are.)");
        MarkerWalks x = new MarkerWalks();
        x.sheet(2, 32, 6);
        for (int k = 1; k <= 6; k++) {
            x.put(2, k - 1, LOW - k);
            due("number(2, " + (k - 1) + ")", x.number(2, k - 1), LOW - k);
        }
        for (int k = 1; k <= 6; k++) {
            due("no ERROR: told(" + k + ")", x.told(k), 0);
        }
    }

    private static MarkerWalks rowsOfNumbers() {
        MarkerWalks x = new MarkerWalks();
        x.sheet(0, 16, 24);
        x.sheet(1, 16, 7);
        x.sheet(2, 16, 0);
        for (int i = 0; i < 24; i++) {
            x.put(0, i, 100 + i);
        }
        return x;
    }

    private static void copies() {
        says("n numbers of a SHEET, from number i on, come to another one (or the same), from its number j on, as they all were: n");
        for (int i = 0; i <= 24; i++) {
            for (int j = 0; j <= 24; j += 3) {
                int n = 24 - Math.max(i, j);
                MarkerWalks x = rowsOfNumbers();
                due("copy(0, " + i + ", 0, " + j + ", " + n + ")", x.copy(0, i, 0, j, n), n);
                for (int k = 0; k < 24; k++) {
                    boolean came = k >= j && k < j + n;
                    due("number(0, " + k + ")", x.number(0, k), came ? 100 + i + k - j : 100 + k);
                }
                due("one more", x.copy(0, i, 0, j, n + 1), BEYOND);
            }
        }
        for (int n = 0; n <= 7; n++) {
            MarkerWalks x = rowsOfNumbers();
            due("the last " + n + " to the first", x.copy(0, 24 - n, 1, 0, n), n);
            for (int k = 0; k < 7; k++) {
                due("number(1, " + k + ")", x.number(1, k), k < n ? 124 - n + k : 0);
            }
            due("the first " + n + " to the last", x.copy(0, 0, 1, 7 - n, n), n);
            due("number(1, 6)", x.number(1, 6), n == 0 ? 0 : 99 + n);
            due("number(0, 0) stays", x.number(0, 0), 100);
        }
        says("BEYOND: n, i or j is below 0, or they don't stand there.");
        MarkerWalks x = rowsOfNumbers();
        due("none of none", x.copy(2, 0, 2, 0, 0), 0);
        due("none of the end of all to none", x.copy(0, 24, 2, 0, 0), 0);
        due("none to the end", x.copy(2, 0, 1, 7, 0), 0);
        due("none from past the end", x.copy(0, 25, 2, 0, 0), BEYOND);
        due("none to past the end", x.copy(2, 0, 1, 8, 0), BEYOND);
        due("one of none", x.copy(2, 0, 1, 0, 1), BEYOND);
        due("all", x.copy(0, 0, 0, 0, 24), 24);
        due("more than all", x.copy(0, 0, 0, 0, 25), BEYOND);
        says("KIND: they are of unlike bits.");
        int[] sorts = {8, 16, 32};
        for (int a : sorts) {
            for (int b : sorts) {
                x = new MarkerWalks();
                x.sheet(0, a, 2);
                x.sheet(3, b, 2);
                x.put(0, 1, 0xF1F2F384);
                due(a + " to " + b, x.copy(0, 0, 3, 0, 2), a == b ? 2 : KIND);
                due("number(3, 1)", x.number(3, 1), a == b ? x.number(0, 1) : 0);
            }
        }
    }

    private static void degreesInSheets() {
        says("A SHEET's numbers become at(p, what) of POINTS 0, 1, .. (their lowest bits), as far as both go: how many");
        for (int what = 0; what <= 2; what++) {
            for (int bits : new int[] {8, 16, 32}) {
                for (int n = 0; n <= 24; n++) {
                    MarkerWalks x = of("a-b,a>c,d<a,e-f,j-i,j>i,j<i");
                    x.sheet(3, bits, n);
                    for (int i = 0; i < n; i++) {
                        x.put(3, i, -9);
                    }
                    due("degrees(3, " + what + ")", x.degrees(3, what), Math.min(n, 10));
                    for (int i = 0; i < n; i++) {
                        due("number(3, " + i + ")", x.number(3, i), i < 10 ? x.at(i, what) : -9);
                    }
                }
            }
        }
        MarkerWalks x = ofPoints(1);
        x.sheet(0, 8, 24);
        x.put(0, 0, 7);
        x.put(0, 1, 7);
        due("one POINT", x.degrees(0, 0), 1);
        due("number(0, 0)", x.number(0, 0), 0);
        due("number(0, 1)", x.number(0, 1), 7);
        x = of(sameLines("a-b", 12));
        x.sheet(0, 8, 2);
        due("12 LINES", x.degrees(0, 2), 2);
        due("number(0, 1)", x.number(0, 1), 12);
    }

    private static void walksInThought() {
        says("0 how many are MOVES, ahead of the first that isn't");
        MarkerWalks x = begun(sameLines("a-b", 12), 1, 0);
        for (int n = 0; n <= 24; n++) {
            x.sheet(0, 8, n);
            for (int i = 0; i < n; i++) {
                x.put(0, i, i % 12);
            }
            due("a SHEET of " + n, x.walks(0, 0), Math.min(n, 12));
            due("who moves then", x.walks(0, 1), Math.min(n, 12) % 2);
        }
        due("in thought", x.game(4), 0);
        x = begun(row(5), 0, 0);
        x.sheet(1, 32, 4);
        int[] noLines = {-1, 4, 12, 31, 32, 33, 64, 256, MIN, MAX, LOW, BEYOND};
        for (int bad : noLines) {
            for (int place = 0; place < 4; place++) {
                for (int i = 0; i < 4; i++) {
                    x.put(1, i, i == place ? bad : i);
                }
                due(bad + " at " + place, x.walks(1, 0), place);
                due(bad + " at " + place + ", who moves then", x.walks(1, 1), place % 2);
            }
            x = begun(row(5), 0, 0);
            x.sheet(1, 32, 4);
        }
        says("a LINE that isn't a MOVE, and one that would be behind it");
        x = begun("a-b,b-c,c-a,c-d", 0, 0);
        x.sheet(0, 8, 4);
        int[] rounds = {0, 1, 2, 3};
        for (int i = 0; i < 4; i++) {
            x.put(0, i, rounds[i]);
        }
        due("to a POINT that is MET", x.walks(0, 0), 2);
        x.begin(1, 0);
        due("RULE 1: all around, then not at the MARKER", x.walks(0, 0), 3);
        x.go(0);
        due("from here on: GONE", x.walks(0, 0), 0);
        says("1 1 if who moves behind these WINS, else 0");
        x = begun("a-b", 4, 0);
        x.sheet(0, 8, 1);
        due("RULE 4: who can't move", x.walks(0, 1), 1);
        x.begin(0, 0);
        due("RULE 0: who can't move", x.walks(0, 1), 0);
        x.go(0);
        due("OVER: none is a MOVE", x.walks(0, 0), 0);
        due("OVER: who can't move", x.walks(0, 1), 0);
        x.sheet(0, 8, 0);
        x.begin(0, 0);
        due("an empty SHEET", x.walks(0, 0), 0);
        due("an empty SHEET: who moves here", x.walks(0, 1), 1);
        says("numbers of a SHEET are told by their lowest bits ahead of this");
        x.sheet(0, 8, 1);
        x.put(0, 0, 256);
        due("256 in 8 bits is LINE 0", x.walks(0, 0), 1);
        x.sheet(0, 16, 1);
        x.put(0, 0, 256);
        due("256 in 16 bits is none", x.walks(0, 0), 0);
        x.put(0, 0, 65536);
        due("65536 in 16 bits is LINE 0", x.walks(0, 0), 1);
        x.sheet(0, 32, 1);
        x.put(0, 0, 65536);
        due("65536 in 32 bits is none", x.walks(0, 0), 0);
    }

    // ---- promises 34 to 38

    private static void seedsAndImages() {
        says("z becomes v: what it was (any number).");
        MarkerWalks x = new MarkerWalks();
        int was = 1;
        for (int v : new int[] {0, -1, MIN, MAX, LOW, BEYOND, MISSING, LOW - 7, 1}) {
            due("seed(" + v + ")", x.seed(v), was);
            due("count(4)", x.count(4), v);
            was = v;
        }
        for (int k = 1; k <= 6; k++) {
            due("no ERROR: told(" + k + ")", x.told(k), 0);
        }
        says("THE NETWORK and z are kept as an IMAGE, in place of one ahead: how many LINES.");
        x = new MarkerWalks();
        due("no LINES", x.image(), 0);
        x.points(10);
        for (int i = 0; i < 12; i++) {
            x.line(i % 9, 9, i % 3);
        }
        x.seed(MIN);
        due("12 LINES", x.image(), 12);
        x.points(1);
        x.seed(4);
        says("THE NETWORK and z are as the IMAGE has them, which stays: how many LINES.");
        for (int round = 0; round < 3; round++) {
            due("restore()", x.restore(), 12);
            due("count(0)", x.count(0), 10);
            due("count(1)", x.count(1), 12);
            due("count(4)", x.count(4), MIN);
            for (int i = 0; i < 12; i++) {
                due("ends(" + i + ", 0)", x.ends(i, 0), i % 9);
                due("ends(" + i + ", 1)", x.ends(i, 1), 9);
                due("ends(" + i + ", 2)", x.ends(i, 2), i % 3);
            }
            due("at(9, 0)", x.at(9, 0), 12);
            x.cut(3);
            x.way(0, 2);
            x.line(1, 2, 0);
            x.seed(round);
            if (round == 1) {
                x.points(10);
            }
        }
        says("an IMAGE has no SHEETS, no TAPE, no GAME");
        x = of("a-b");
        x.image();
        x.sheet(0, 8, 3);
        x.put(0, 2, 9);
        x.feed('b', 1);
        x.begin(0, 0);
        due("restore()", x.restore(), 1);
        due("the SHEET stays", x.number(0, 2), 9);
        due("THE TAPE stays", x.count(2), 1);
        due("no GAME", x.count(3), 0);
        due("an IMAGE of an empty NETWORK", ofPoints(1).image(), 0);
    }

    private static void countsAndTold() {
        says("0 POINTS, 1 LINES, 2 bytes of THE TAPE, 3 1 if there is a GAME, else 0, 4 z (any number), 5 SHEETS that aren't MISSING");
        MarkerWalks x = begun(sameLines("i-j", 12), 1, 9);
        for (int i = 0; i < 7; i++) {
            x.feed(0, 8);
        }
        x.feed(0, 4);
        for (int s = 0; s <= 3; s++) {
            x.sheet(s, 8, 0);
        }
        for (int z : new int[] {BEYOND, MISSING, MIN, MAX}) {
            x.seed(z);
            int[] want = {10, 12, 60, 1, z, 4};
            for (int i = 0; i < want.length; i++) {
                due("count(" + i + ")", x.count(i), want[i]);
            }
        }
        due("no ERROR", x.told(1) + x.told(6), 0);
        says("How many acts have answered an ERROR LOW - k (k 1 .. 6)");
        x = of(sameLines("a-b", 12));
        int[] want = new int[7];
        for (int round = 1; round <= 20; round++) {
            x.points(11);
            x.restore();
            x.restore();
            x.back();
            x.line(0, 1, 0);
            x.line(0, 0, 0);
            x.number(0, 0);
            x.put(3, 0, 0);
            x.copy(0, 0, 0, 0, 0);
            int[] more = {0, 1, 2, 1, 1, 1, 3};
            for (int k = 1; k <= 6; k++) {
                want[k] += more[k];
                due("told(" + k + ")", x.told(k), want[k]);
            }
        }
        says("BEYOND: another k (counted, too)");
        x = new MarkerWalks();
        int many = 0;
        for (int k : new int[] {0, 7, -1, 8, MIN, MAX, 32 + 1, LOW - 1}) {
            due("told(" + k + ")", x.told(k), BEYOND);
            many++;
            due("told(1)", x.told(1), many);
        }
        due("told(2)", x.told(2), 0);
    }

    private static void everyCallOfFiveHundredTwelve() {
        says("An object is used for at most 512 calls after it has been made");
        MarkerWalks x = new MarkerWalks();
        for (int i = 0; i < 511; i++) {
            x.told(0);
        }
        due("the 512th call: told(1)", x.told(1), 511);
        x = new MarkerWalks();
        for (int i = 0; i < 511; i++) {
            due("seed(..)", x.seed(i), i == 0 ? 1 : i - 1);
        }
        due("the 512th call: count(4)", x.count(4), 510);
        x = new MarkerWalks();
        x.line(0, 1, 0);
        x.line(1, 2, 1);
        for (int i = 0; i < 509; i++) {
            due("starts(" + i % 5 + ")", x.starts(i % 5), i % 5 == 4 ? 13 : 2);
        }
        due("the 512th call: begin(0, 1)", x.begin(0, 1), 1);
        x = new MarkerWalks();
        x.line(0, 1, 0);
        x.begin(1, 0);
        for (int i = 0; i < 255; i++) {
            due("go(0)", x.go(0), 1);
            due("back()", x.back(), 0);
        }
        x = new MarkerWalks();
        for (int i = 0; i < 256; i++) {
            due("feed(.., 8)", x.feed(-1, 8), 8);
            due("network()", x.network(), -10);
        }
    }
}
