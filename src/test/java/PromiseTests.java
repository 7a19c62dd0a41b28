/** Each promise of the document by itself: ordinary calls, the edges that it names, and wrong inputs in their order. */
public final class PromiseTests {
    private static final int BEYOND = -1100000001;
    private static final int NONE = -1100000002;
    private static final int STATE = -1100000003;
    private static final int FULL = -1100000004;
    private static final int KIND = -1100000005;
    private static final int MISSING = -1100000006;
    private static final int MIN = Integer.MIN_VALUE;
    private static final int MAX = Integer.MAX_VALUE;

    private static int wrong;
    private static int asked;
    private static int promise;

    private static void due(String call, long got, long want) {
        asked++;
        if (got != want) {
            wrong++;
            System.out.println("promise " + promise + ": " + call + " answered " + got + ", due is " + want);
        }
    }

    private static void feedText(MarkerWalks x, String text) {
        for (int i = 0; i < text.length(); i += 8) {
            int n = Math.min(8, text.length() - i);
            long word = 0;
            for (int j = n - 1; j >= 0; j--) {
                word = word << 8 | text.charAt(i + j);
            }
            x.feed(word, n);
        }
    }

    private static int tell(MarkerWalks x, String text) {
        feedText(x, text);
        return x.network();
    }

    private static MarkerWalks of(String text) {
        MarkerWalks x = new MarkerWalks();
        tell(x, text);
        return x;
    }

    private static String sameLines(String line, int n) {
        StringBuilder text = new StringBuilder(line);
        for (int i = 1; i < n; i++) {
            text.append(',').append(line);
        }
        return text.toString();
    }

    public static void main(String[] args) {
        networkPromises();
        structurePromises();
        textPromises();
        gamePromises();
        worthPromises();
        planPromises();
        treePromises();
        sheetPromises();
        restPromises();
        System.out.println(asked + " answers asked, " + wrong + " not as due");
        if (wrong != 0) {
            System.exit(1);
        }
    }

    private static void networkPromises() {
        newObject();
        pointsAndLines();
        waysAndCuts();
        endsAndDegrees();
    }

    private static void newObject() {
        promise = 1;
        MarkerWalks x = new MarkerWalks();
        due("count(0)", x.count(0), 4);
        due("count(1)", x.count(1), 0);
        due("count(2)", x.count(2), 0);
        due("count(3)", x.count(3), 0);
        due("count(4)", x.count(4), 1);
        due("count(5)", x.count(5), 0);
        for (int k = 1; k <= 6; k++) {
            due("told(" + k + ")", x.told(k), 0);
        }
        due("restore()", x.restore(), NONE);
        due("game(0)", x.game(0), STATE);
        due("number(0, 0)", x.number(0, 0), MISSING);
    }

    private static void pointsAndLines() {
        promise = 2;
        MarkerWalks x = of("a-b,b-c");
        x.begin(0, 0);
        for (int n : new int[] {0, 11, -1, MIN, MAX}) {
            due("points(" + n + ")", x.points(n), BEYOND);
        }
        due("the game stays", x.count(3), 1);
        due("lines stay", x.count(1), 2);
        due("points(10)", x.points(10), 3);
        due("no lines then", x.count(1), 0);
        due("no game then", x.count(3), 0);
        due("points(1)", x.points(1), 10);
        due("points(1)", x.points(1), 1);
        due("sides()", x.sides(), 1);

        promise = 3;
        x = new MarkerWalks();
        x.points(10);
        due("line(9, 0, 2)", x.line(9, 0, 2), 0);
        due("ends(0, 0)", x.ends(0, 0), 9);
        due("line(-1, 0, 0)", x.line(-1, 0, 0), BEYOND);
        due("line(0, -1, 0)", x.line(0, -1, 0), BEYOND);
        due("line(10, 0, 0)", x.line(10, 0, 0), BEYOND);
        due("line(0, MAX, 0)", x.line(0, MAX, 0), BEYOND);
        due("line(0, 0, 3)", x.line(0, 0, 3), BEYOND);
        due("line(0, 1, -1)", x.line(0, 1, -1), BEYOND);
        due("line(10, 10, 0)", x.line(10, 10, 0), BEYOND);
        due("line(3, 3, 1)", x.line(3, 3, 1), KIND);
        for (int i = 1; i < 12; i++) {
            due("a line between the same two", x.line(0, 9, 0), i);
        }
        x.begin(0, 0);
        due("a 13th", x.line(0, 1, 0), FULL);
        due("KIND ahead of FULL", x.line(1, 1, 0), KIND);
        due("BEYOND ahead of FULL", x.line(1, 2, 3), BEYOND);
        due("the game stays", x.count(3), 1);
        due("count(1)", x.count(1), 12);
        x.cut(0);
        x.begin(0, 0);
        x.line(0, 1, 0);
        due("no game then", x.count(3), 0);
    }

    private static void waysAndCuts() {
        promise = 4;
        MarkerWalks x = of("a-b,b>c");
        x.begin(0, 0);
        due("way(2, 0)", x.way(2, 0), BEYOND);
        due("way(-1, 0)", x.way(-1, 0), BEYOND);
        due("way(0, 3)", x.way(0, 3), BEYOND);
        due("way(0, -1)", x.way(0, -1), BEYOND);
        due("the game stays", x.count(3), 1);
        due("way(1, 2)", x.way(1, 2), 1);
        due("way(1, 2)", x.way(1, 2), 2);
        due("at(1, 1)", x.at(1, 1), 1);
        due("at(2, 1)", x.at(2, 1), 1);
        x.begin(0, 0);
        due("way(0, 0)", x.way(0, 0), 0);
        due("gone though it is the same way", x.count(3), 0);

        promise = 5;
        x = of("a-b,b>c,c<d,d-a");
        x.begin(0, 0);
        due("cut(4)", x.cut(4), BEYOND);
        due("cut(-1)", x.cut(-1), BEYOND);
        due("the game stays", x.count(3), 1);
        due("cut(1)", x.cut(1), 3);
        due("no game then", x.count(3), 0);
        due("ends(0, 1)", x.ends(0, 1), 1);
        due("ends(1, 0)", x.ends(1, 0), 2);
        due("ends(1, 2)", x.ends(1, 2), 2);
        due("ends(2, 0)", x.ends(2, 0), 3);
        due("ends(3, 0)", x.ends(3, 0), BEYOND);
        due("cut(2)", x.cut(2), 2);
        due("cut(0)", x.cut(0), 1);
        due("cut(0)", x.cut(0), 0);
        due("cut(0)", x.cut(0), BEYOND);
        due("count(0)", x.count(0), 4);
        x = of(sameLines("a-b", 12));
        due("the last of 12", x.cut(11), 11);
    }

    private static void endsAndDegrees() {
        promise = 6;
        MarkerWalks x = of("b>a,c<j");
        due("ends(0, 0)", x.ends(0, 0), 1);
        due("ends(0, 1)", x.ends(0, 1), 0);
        due("ends(0, 2)", x.ends(0, 2), 1);
        due("ends(1, 0)", x.ends(1, 0), 2);
        due("ends(1, 1)", x.ends(1, 1), 9);
        due("ends(1, 2)", x.ends(1, 2), 2);
        due("ends(2, 0)", x.ends(2, 0), BEYOND);
        due("ends(-1, 0)", x.ends(-1, 0), BEYOND);
        due("ends(0, 3)", x.ends(0, 3), BEYOND);
        due("ends(0, -1)", x.ends(0, -1), BEYOND);

        promise = 7;
        x = of("a-b,a>b,a<b,a>c");
        due("at(0, 0)", x.at(0, 0), 4);
        due("at(0, 1)", x.at(0, 1), 3);
        due("at(0, 2)", x.at(0, 2), 2);
        due("at(1, 0)", x.at(1, 0), 3);
        due("at(1, 1)", x.at(1, 1), 2);
        due("at(1, 2)", x.at(1, 2), 2);
        due("at(2, 1)", x.at(2, 1), 0);
        due("at(2, 2)", x.at(2, 2), 1);
        due("at(3, 0)", x.at(3, 0), BEYOND);
        due("at(-1, 0)", x.at(-1, 0), BEYOND);
        due("at(0, 3)", x.at(0, 3), BEYOND);
        due("at(0, -1)", x.at(0, -1), BEYOND);
    }

    private static void structurePromises() {
        promise = 8;
        MarkerWalks x = of("b-c,c>d,a<e,f-g,g-h");
        due("sides of three parts", x.sides(), 1 | 1 << 1 | 1 << 3 | 1 << 5 | 1 << 7);
        due("a round of five", of("a-b,b-c,c-d,d-e,e-a").sides(), NONE);
        due("a round of four, by any ways", of("a>b,c>b,c>d,a>d").sides(), 5);
        due("two lines between the same", of("a-b,b-a").sides(), 1);
        due("a long tail to a round of three", of("a-b,b-c,c-d,d-e,e-f,f-g,g-h,h-i,i-j,j-h").sides(), NONE);
        due("a round of nine behind a point", of("a-b,b-c,c-d,d-e,e-f,f-g,g-h,h-i,i-j,j-b").sides(), NONE);

        promise = 9;
        x = of("a-b,b-c,c-d,d>a");
        due("pairing(15, 0)", x.pairing(15, 0), 2);
        due("pairing(15, 1)", x.pairing(15, 1), 5);
        due("pairing(7, 1)", x.pairing(7, 1), 1);
        due("pairing(14, 1)", x.pairing(14, 1), 2);
        due("pairing(9, 1)", x.pairing(9, 1), 8);
        due("pairing(5, 0)", x.pairing(5, 0), 0);
        due("pairing(5, 1)", x.pairing(5, 1), 0);
        due("pairing(0, 1)", x.pairing(0, 1), 0);
        due("pairing(16, 0)", x.pairing(16, 0), BEYOND);
        due("pairing(-1, 0)", x.pairing(-1, 0), BEYOND);
        due("pairing(MIN, 0)", x.pairing(MIN, 0), BEYOND);
        due("pairing(15, 2)", x.pairing(15, 2), BEYOND);
        due("pairing(15, -1)", x.pairing(15, -1), BEYOND);
        due("most is more than least lines", of("b-c,a-b,c-d").pairing(15, 1), 6);
        due("the least of like lines", of("c-d,a-b,a-b,c-d").pairing(15, 1), 3);
        due("five pairs", of("a-b,c-d,e-f,g-h,i-j").pairing(1023, 1), 31);

        promise = 10;
        due("a way of three points", of("a-b,b-c").needed(), 2);
        due("a way of four points", of("a-b,b-c,c-d").needed(), 15);
        due("a round of three", of("a-b,b-c,c-a").needed(), 0);
        due("no lines", new MarkerWalks().needed(), 0);
        due("by any ways", of("a>b,c<b").needed(), 2);

        promise = 11;
        x = of("a-b,b-c,c-d,d-a");
        due("kernel(-1)", x.kernel(-1), 2);
        due("kernel(0)", x.kernel(0), 5);
        due("kernel(1)", x.kernel(1), 10);
        due("kernel(2)", x.kernel(2), NONE);
        due("kernel(MAX)", x.kernel(MAX), NONE);
        due("kernel(-2)", x.kernel(-2), BEYOND);
        due("kernel(MIN)", x.kernel(MIN), BEYOND);
        due("a round of three one way", of("a>b,b>c,c>a").kernel(-1), 0);
        due("a way", of("a>b,b>c").kernel(0), 5);
        due("the other way", of("a<b,b<c").kernel(0), 5);
        due("one way of two", of("a<b").kernel(0), 1);
        due("only one", of("a<b").kernel(-1), 1);
        x.points(4);
        due("all points", x.kernel(0), 15);
    }

    private static void textPromises() {
        promise = 12;
        MarkerWalks x = new MarkerWalks();
        due("feed(.., 0)", x.feed(97, 0), BEYOND);
        due("feed(.., 9)", x.feed(97, 9), BEYOND);
        due("feed(.., MIN)", x.feed(97, MIN), BEYOND);
        for (int i = 1; i <= 7; i++) {
            due("feed(.., 8)", x.feed(-1L, 8), 8 * i);
        }
        due("61 bytes", x.feed(0, 5), FULL);
        due("BEYOND ahead of FULL", x.feed(0, 9), BEYOND);
        due("60 bytes", x.feed(0, 4), 60);
        due("one more", x.feed(0, 1), FULL);
        due("count(2)", x.count(2), 60);
        due("a byte of 255 is none of a text", x.network(), -10);
        due("emptied", x.count(2), 0);
        // the bytes above the n lowest don't come
        due("feed(a-b?, 3)", x.feed(0x3F622D61L, 3), 3);
        due("network()", x.network(), 1);

        promise = 13;
        x = of("a-b,b-c");
        x.begin(0, 0);
        String[] bad = {"", "k", "A", "a", "a=", "a-", "a-a", "a-k", "a-b,", "a-b;", "a-bc", "a-b,,", "a-b, c-d", ",", "a-b,c-c", "a-b,c"};
        int[] fault = {0, 0, 0, 1, 1, 2, 2, 2, 4, 3, 3, 4, 4, 0, 6, 5};
        for (int i = 0; i < bad.length; i++) {
            due("network() of " + bad[i], tell(x, bad[i]), -10 - fault[i]);
            due("emptied", x.count(2), 0);
        }
        String twelve = sameLines("a-b", 12);
        due("a comma behind 12 lines", tell(x, twelve + ","), -58);
        due("a 13th line", tell(x, twelve + ",a-b"), -58);
        due("another sign behind 12 lines", tell(x, twelve + "-"), -57);
        due("the game stays", x.count(3), 1);
        due("the network stays", x.count(1), 2);
        due("no error", x.told(1) + x.told(2) + x.told(3) + x.told(4), 0);
        due("12 lines", tell(x, twelve), 12);
        due("as many points", x.count(0), 2);
        due("no game then", x.count(3), 0);
        due("a text", tell(x, "c<e,d>b"), 2);
        due("as many points", x.count(0), 5);
        due("ends(0, 2)", x.ends(0, 2), 2);
        due("ends(1, 2)", x.ends(1, 2), 1);
        due("ends(1, 0)", x.ends(1, 0), 3);
    }

    private static void gamePromises() {
        beginning();
        going();
        asking();
    }

    private static void beginning() {
        promise = 14;
        MarkerWalks x = of("a-b,b>c,c-a");
        due("begin(-1, 0)", x.begin(-1, 0), BEYOND);
        due("begin(5, 0)", x.begin(5, 0), BEYOND);
        due("begin(0, 3)", x.begin(0, 3), BEYOND);
        due("begin(0, -1)", x.begin(0, -1), BEYOND);
        due("no game", x.count(3), 0);
        due("begin(0, 0)", x.begin(0, 0), 0);
        due("begin(1, 0)", x.begin(1, 0), 1);
        due("begin(2, 2)", x.begin(2, 2), 0);
        due("begin(4, 0)", x.begin(4, 0), 1);
        x.go(0);
        due("begin(9, 9)", x.begin(9, 9), BEYOND);
        due("the game stays", x.game(4), 1);
        due("in place of it", x.begin(3, 1), 1);
        due("no moves", x.game(4), 0);
        due("game(0)", x.game(0), 3);
        due("game(1)", x.game(1), 1);
        x.points(1);
        due("no move at once", x.begin(0, 0), 0);
        due("over at once", x.game(6), 1);
        due("1 has won", x.game(7), 1);
        due("no move at once, last loses", x.begin(4, 0), 1);
        due("0 has won", x.game(7), 0);
    }

    private static void going() {
        promise = 15;
        MarkerWalks x = of("a-b,b>c,c-a,a-b");
        due("go(0) without a game", x.go(0), STATE);
        due("go(99) without a game", x.go(99), STATE);
        x.begin(2, 0);
        due("go(-1)", x.go(-1), BEYOND);
        due("go(4)", x.go(4), BEYOND);
        due("go(32)", x.go(32), BEYOND);
        due("not at the marker", x.go(1), NONE);
        due("go(3)", x.go(3), 0);
        due("to a point met", x.go(0), NONE);
        due("go(1)", x.go(1), 1);
        due("over", x.go(0), STATE);
        due("over, no such line", x.go(9), STATE);
        x.begin(2, 2);
        due("against the way", x.go(1), NONE);
        x.begin(0, 2);
        due("of any way", x.go(1), 0);
        x.begin(3, 0);
        due("go(0)", x.go(0), 0);
        due("a line gone", x.go(0), NONE);
        due("the other line, to a point met", x.go(3), 0);
        x.begin(1, 2);
        due("lines of any way", x.go(1), 0);

        promise = 16;
        x = of("a-b,b-c,c-a,a-d");
        due("back() without a game", x.back(), STATE);
        x.begin(1, 0);
        due("back() without a move", x.back(), NONE);
        x.go(0);
        x.go(1);
        x.go(2);
        due("go(3)", x.go(3), 1);
        due("game(2)", x.game(2), 15);
        due("back()", x.back(), 3);
        due("game(1)", x.game(1), 0);
        due("game(2)", x.game(2), 7);
        due("game(3)", x.game(3), 7);
        due("back()", x.back(), 2);
        due("a point met before stays met", x.game(2), 7);
        due("back()", x.back(), 1);
        due("game(2)", x.game(2), 3);
        due("game(3)", x.game(3), 1);
        due("moves(0)", x.moves(0), 2);
        x.tells(5);
        int z = x.count(4);
        x.back();
        due("z stays", x.count(4), z);
        due("moved(0)", x.moved(0), NONE);
    }

    private static void asking() {
        promise = 17;
        MarkerWalks x = of("a-b,b-c,c-d");
        due("game(8) without a game", x.game(8), BEYOND);
        due("game(-1)", x.game(-1), BEYOND);
        due("game(0) without a game", x.game(0), STATE);
        x.begin(4, 1);
        x.go(1);
        int[] want = {4, 2, 6, 2, 1, 1, 0, 0};
        for (int i = 0; i < want.length; i++) {
            due("game(" + i + ")", x.game(i), want[i]);
        }
        x.go(2);
        due("over", x.game(6), 1);
        due("who has no move", x.game(5), 0);
        due("has won", x.game(7), 0);
        x.begin(0, 1);
        x.go(1);
        x.go(2);
        due("has lost", x.game(7), 1);

        promise = 18;
        x = of("a-b,b-c,c-d");
        due("moved(0) without a game", x.moved(0), STATE);
        x.begin(0, 3);
        due("moved(0)", x.moved(0), NONE);
        x.go(2);
        x.go(1);
        due("moved(0)", x.moved(0), 2);
        due("moved(1)", x.moved(1), 1);
        due("moved(2)", x.moved(2), NONE);
        due("moved(-1)", x.moved(-1), NONE);
        due("moved(MAX)", x.moved(MAX), NONE);

        promise = 19;
        x = of("a-b,a-c,c-d,a-e,e-f,f-g");
        due("moves(2) without a game", x.moves(2), BEYOND);
        due("moves(-1)", x.moves(-1), BEYOND);
        due("moves(0) without a game", x.moves(0), STATE);
        x.begin(0, 0);
        due("moves(0)", x.moves(0), 11);
        due("moves(1)", x.moves(1), 9);
        x.begin(4, 0);
        due("last loses: moves(1)", x.moves(1), 2);
        x.go(0);
        due("over: moves(0)", x.moves(0), 0);
        due("over: moves(1)", x.moves(1), 0);
    }

    private static void worthPromises() {
        promise = 20;
        MarkerWalks x = of("a-b,a-c,c-d,a-e,e-f,f-g");
        due("worth(2) without a game", x.worth(2), BEYOND);
        due("worth(-1)", x.worth(-1), BEYOND);
        due("worth(1) without a game", x.worth(1), STATE);
        x.begin(0, 0);
        due("soonest, not by way of e", x.worth(0), 1);
        due("worth(1)", x.worth(1), 2);
        x.begin(0, 4);
        due("who loses makes it long, but by way of a it isn't longer", x.worth(0), 2);
        due("worth(1)", x.worth(1), 0);
        x.begin(0, 3);
        due("worth(0)", x.worth(0), 3);
        due("worth(1)", x.worth(1), 1);
        x.begin(4, 3);
        due("last loses", x.worth(0), 5);
        due("no NIM", x.worth(1), KIND);
        x.begin(0, 1);
        x.go(0);
        due("NIM 1 by way of c, 0 by way of e", x.worth(1), 2);
        due("NIM of 12 lines", nimOfParallel(12), 0);
        due("NIM of 11 lines", nimOfParallel(11), 1);

        promise = 21;
        x = of("a>b,b>c,c>a,d-a");
        due("reach() without a game", x.reach(), STATE);
        x.begin(0, 0);
        due("points", x.reach(), 14);
        x.begin(1, 0);
        due("lines: its own, too", x.reach(), 15);
        x.begin(2, 3);
        due("points by ways", x.reach(), 7);
        x.begin(2, 1);
        due("points by ways", x.reach(), 13);
        x.begin(3, 1);
        due("lines by ways", x.reach(), 15);
        x.begin(3, 3);
        due("back to d not along its own line", x.reach(), 7);
        x.begin(1, 3);
        due("nor where ways don't matter", x.reach(), 7);
        x.begin(0, 1);
        x.go(0);
        due("behind a move", x.reach(), 12);
        x.go(3);
        due("over", x.reach(), 0);
        x = of("a>b,b>c,c>d,d>e,e>f,f>g,g>h,h>i,i>j,j>a");
        x.begin(3, 0);
        due("all around", x.reach(), 1023);
        x.begin(2, 0);
        due("all but where it began", x.reach(), 1022);

        promise = 22;
        x = of("a-b,b-c");
        due("starts(-1)", x.starts(-1), BEYOND);
        due("starts(5)", x.starts(5), BEYOND);
        due("starts(0)", x.starts(0), 2);
        due("starts(1)", x.starts(1), 2);
        due("starts(4)", x.starts(4), 5);
        x = of("a>b,b>c");
        due("starts(2)", x.starts(2), 2);
        due("starts(3)", x.starts(3), 2);
        x = of("a-b,b-c,c-a");
        x.begin(1, 0);
        x.go(0);
        due("starts(0)", x.starts(0), 0);
        due("starts(4)", x.starts(4), 7);
        due("the game stays", x.game(7), 0);
        due("the game's worth stays", x.worth(0), 2);
        due("its moves stay", x.moves(0), 2);
    }

    private static int nimOfParallel(int lines) {
        MarkerWalks x = of(sameLines("a-b", lines));
        x.begin(1, 0);
        return x.worth(1);
    }

    private static void planPromises() {
        simplePlans();
        drawing();
        codes();
        playing();
    }

    private static void simplePlans() {
        promise = 23;
        MarkerWalks x = of("a-b,b-c,a-c,c-d,a-e");
        due("tells(0) without a game", x.tells(0), BEYOND);
        due("tells(1) without a game", x.tells(1), STATE);
        x.begin(0, 0);
        due("LEAST", x.tells(1), 0);
        due("GREATEST", x.tells(2), 4);
        due("BEST", x.tells(3), 0);
        due("PAIR: {0, 3} is the greatest", x.tells(4), 0);
        due("NARROW: e has no moves", x.tells(6), 4);
        due("SLOW: behind b there are two", x.tells(7), 0);
        x.go(0);
        due("no BEST", x.tells(3), NONE);
        due("PAIR of b, c, d, e: the least of b-c and c-d", x.tells(4), 1);
        due("LEAST behind BEST", x.tells(13), 1);

        MarkerWalks y = of("a-b,a-c,b-d,b-e,c-f");
        y.begin(0, 0);
        due("NARROW", y.tells(6), 1);
        MarkerWalks even = of("a-b,a-c");
        even.begin(0, 0);
        due("NARROW: of several the least line", even.tells(6), 0);
        due("SLOW: both are one long", y.tells(7), 0);
        y = of("b>a,c-d");
        y.begin(2, 0);
        due("PAIR against the way", y.tells(4), NONE);
        y.begin(0, 0);
        due("PAIR of any way", y.tells(4), 0);
        y = of("a-b,a-b,b-c");
        y.begin(1, 0);
        y.go(0);
        due("PAIR where the marker's point is met", y.tells(4), 2);
        y.go(1);
        due("PAIR: b is met, though a line leads on", y.tells(4), NONE);
    }

    private static void drawing() {
        MarkerWalks x = of(sameLines("a-b", 12));
        x.begin(1, 0);
        int z = 1;
        for (int i = 0; i < 30; i++) {
            z = z * 1103515245 + 12345;
            due("DRAW", x.tells(5), (z >>> 8) % 12);
        }
        x.seed(-5);
        x.go(0);
        x.go(5);
        z = -5 * 1103515245 + 12345;
        int[] left = {1, 2, 3, 4, 6, 7, 8, 9, 10, 11};
        due("DRAW of ten", x.tells(5), left[(z >>> 8) % 10]);
        x.tells(15);
        z = z * 1103515245 + 12345;
        due("once, where DRAW tells", x.count(4), z);
        x.tells(51);
        due("not, where LEAST tells ahead", x.count(4), z);
        x = of("a-b");
        x.begin(0, 0);
        x.go(0);
        due("none without moves", x.tells(5), NONE);
        due("z stays", x.count(4), 1);
        due("none of four without moves", x.tells(5555), NONE);
        due("z stays", x.count(4), 1);
    }

    private static void codes() {
        MarkerWalks x = of("a-b,b-c,c-d");
        x.begin(0, 0);
        for (int code : new int[] {0, 8, 9, 10, 18, 80, 108, 1000, 7778, 8111, 11111, 77777, -1, -11, MIN, MAX}) {
            due("tells(" + code + ")", x.tells(code), BEYOND);
        }
        for (int code : new int[] {1, 7, 11, 77, 111, 777, 1111, 7777, 1234, 4321, 7654}) {
            due("tells(" + code + ")", x.tells(code), 0);
        }
    }

    private static void playing() {
        promise = 24;
        MarkerWalks x = of("a-b,b-c,c-d,d-e,e-f");
        due("play(1, 1, 0) without a game", x.play(1, 1, 0), BEYOND);
        due("play(1, 1, 1) without a game", x.play(1, 1, 1), STATE);
        x.begin(0, 0);
        due("play(0, 1, 1)", x.play(0, 1, 1), BEYOND);
        due("play(1, 8, 1)", x.play(1, 8, 1), BEYOND);
        due("play(1, 1, 21)", x.play(1, 1, 21), BEYOND);
        due("play(1, 1, -1)", x.play(1, 1, -1), BEYOND);
        due("play(1, 1, 2)", x.play(1, 1, 2), 2);
        due("game(1)", x.game(1), 2);
        due("play(3, 3, 20)", x.play(3, 3, 20), 3);
        due("play(1, 1, 20)", x.play(1, 1, 20), 0);
        due("moved(4)", x.moved(4), 4);
        x = of("a-b,a-c,c-d,c-e");
        x.begin(0, 0);
        due("0 by GREATEST, 1 by LEAST", x.play(2, 1, 20), 2);
        due("moved(0)", x.moved(0), 1);
        due("moved(1)", x.moved(1), 2);
        x.begin(0, 0);
        x.go(1);
        due("1 by GREATEST", x.play(1, 2, 1), 1);
        due("moved(1)", x.moved(1), 3);
        x.begin(4, 2);
        due("LEAST where BEST tells none", x.play(3, 3, 1), 1);
        x.begin(1, 0);
        due("z goes on", x.play(5, 1, 1), 1);
        due("count(4)", x.count(4), 1103527590);

        promise = 25;
        x = of("a-b,a-c,c-d,c-e");
        due("fight(1, 1, 2) without a game", x.fight(1, 1, 2), BEYOND);
        due("fight(1, 1, 0) without a game", x.fight(1, 1, 0), STATE);
        x.begin(0, 0);
        due("fight(8, 1, 0)", x.fight(8, 1, 0), BEYOND);
        due("fight(1, 0, 0)", x.fight(1, 0, 0), BEYOND);
        due("fight(1, 1, -1)", x.fight(1, 1, -1), BEYOND);
        due("fight(1, 1, 0)", x.fight(1, 1, 0), 0);
        due("fight(1, 1, 1)", x.fight(1, 1, 1), 1);
        due("fight(2, 1, 0)", x.fight(2, 1, 0), 1);
        due("fight(2, 1, 1)", x.fight(2, 1, 1), 2);
        due("z is the same for each", x.fight(5, 5, 1), x.fight(5, 5, 1));
        due("z stays", x.count(4), 1);
        due("the game stays", x.game(4), 0);
        x.go(1);
        due("from here on", x.fight(1, 1, 1), 1);
        due("1 has won", x.fight(1, 1, 0), 1);
        x.go(2);
        due("over: 1 has won", x.fight(1, 1, 0), 1);
        due("over: no moves", x.fight(1, 1, 1), 0);
        x.begin(4, 0);
        due("last loses: 1 has won", x.fight(1, 1, 0), 1);
        x = of(sameLines("a-b", 12));
        x.begin(1, 0);
        due("as long as can be", x.fight(1, 1, 1), 12);
        due("of four digits the last first", x.fight(2, 5553, 1), 12);
        due("play as long as can be", x.play(1, 1, 20), 12);
        due("no line is left", x.game(3), 4095);
    }

    private static void treePromises() {
        promise = 26;
        MarkerWalks x = of("a-b,a-c,c-d,b-e,b-f");
        due("tree(3) without a game", x.tree(3), BEYOND);
        due("tree(-1)", x.tree(-1), BEYOND);
        due("tree(0) without a game", x.tree(0), STATE);
        x.begin(0, 0);
        due("who loses has all moves", x.tree(0), 5);
        due("tree(1)", x.tree(1), 2);
        due("tree(2)", x.tree(2), 2);
        promise = 27;
        int[] lines = {NONE, 0, 3, 1, 2, NONE};
        for (int i = 0; i < lines.length; i++) {
            due("each ahead of what is behind it: node(" + i + ")", x.node(i), lines[i]);
        }
        due("node(-1)", x.node(-1), NONE);
        due("node(MAX)", x.node(MAX), NONE);
        due("node(1) without a game", new MarkerWalks().node(1), STATE);

        promise = 26;
        x.go(0);
        due("who wins goes by BEST alone", x.tree(0), 2);
        due("node(1)", x.node(1), 3);
        x.go(3);
        due("over: the root", x.tree(0), 1);
        due("over: it has nothing behind it", x.tree(1), 1);
        due("over: no moves down", x.tree(2), 0);
        due("over: node(0)", x.node(0), NONE);
        x = of("a-b");
        x.begin(4, 0);
        x.go(0);
        due("last loses: a winner without moves has nothing behind", x.tree(0), 1);

        x = of(sameLines("a-b", 8));
        x.begin(1, 0);
        due("8, 48, 192 and 384, each with one behind", x.tree(0), FULL);
        due("FULL for each", x.tree(1), FULL);
        due("FULL for each", x.tree(2), FULL);
        due("BEYOND ahead of FULL", x.tree(3), BEYOND);
        promise = 27;
        due("FULL", x.node(1), FULL);
        due("FULL ahead of NONE", x.node(-1), FULL);
        promise = 26;
        x = of(sameLines("a-b", 6));
        x.begin(1, 0);
        due("6 and 24 and 48, each with one behind", x.tree(0), 1 + 2 * (6 + 24 + 48));
        due("48 have nothing behind them", x.tree(1), 48);
        due("six moves", x.tree(2), 6);
        exactlyFull();
    }

    private static void exactlyFull() {
        MarkerWalks x = of(sameLines("a-b", 7));
        x.begin(1, 0);
        due("who wins goes by one, then 6, 24, 48, each with one behind", x.tree(0), 2 + 2 * (6 + 24 + 48));
        x = of("c-e,a-e,c>e,f>a,e>b,c<b,e>b,e-f,e-f,a>d,d-c,f<b");
        x.begin(3, 0);
        due("twelve deep", x.tree(2), 12);
        due("63 nodes", x.tree(0), 63);
        x = of("d-b,d-b,d-a,d-a,c-a,d-c,a-d,d-a,d-c");
        x.begin(1, 0);
        due("300 nodes are not too many", x.tree(0), 300);
        due("the last of them", x.node(299) >= 0 ? 1 : 0, 1);
        due("no more", x.node(300), NONE);
        x = of("b-c,b-a,c-b,d-a,a-b,c-a,c-a,d-a");
        x.begin(1, 0);
        due("301 nodes are", x.tree(0), FULL);
        due("301 nodes are", x.node(0), FULL);
    }

    private static void sheetPromises() {
        makingSheets();
        copying();
        fillingSheets();
    }

    private static void makingSheets() {
        promise = 28;
        MarkerWalks x = new MarkerWalks();
        due("sheet(4, 8, 1)", x.sheet(4, 8, 1), BEYOND);
        due("sheet(-1, 8, 1)", x.sheet(-1, 8, 1), BEYOND);
        due("sheet(0, 7, -1)", x.sheet(0, 7, -1), BEYOND);
        due("sheet(0, -8, 1)", x.sheet(0, -8, 1), BEYOND);
        due("sheet(0, 64, 1)", x.sheet(0, 64, 1), BEYOND);
        due("sheet(0, 8, -1)", x.sheet(0, 8, -1), STATE);
        due("sheet(0, 8, MIN)", x.sheet(0, 8, MIN), STATE);
        due("sheet(0, 8, 25)", x.sheet(0, 8, 25), BEYOND);
        due("none is there", x.count(5), 0);
        due("sheet(0, 8, 24)", x.sheet(0, 8, 24), 1);
        due("sheet(1, 16, 0)", x.sheet(1, 16, 0), 1);
        due("an empty one is there", x.count(5), 2);
        due("number(0, 23)", x.number(0, 23), 0);
        x.put(0, 3, 7);
        due("sheet(0, 8, 25)", x.sheet(0, 8, 25), BEYOND);
        due("it stays", x.number(0, 3), 7);
        due("sheet(0, 32, 4)", x.sheet(0, 32, 4), 1);
        due("all 0", x.number(0, 3), 0);
        due("fewer", x.number(0, 4), BEYOND);
        due("sheet(0, 0, -5)", x.sheet(0, 0, -5), 1);
        due("sheet(3, 0, 99)", x.sheet(3, 0, 99), 1);
        due("missing", x.number(0, 0), MISSING);
        due("count(5)", x.count(5), 1);

        promise = 29;
        x = new MarkerWalks();
        due("put(4, 0, 0)", x.put(4, 0, 0), BEYOND);
        due("put(-1, 0, 0)", x.put(-1, 0, 0), BEYOND);
        due("put(0, -1, 0)", x.put(0, -1, 0), MISSING);
        x.sheet(0, 8, 2);
        x.sheet(1, 16, 2);
        x.sheet(2, 32, 2);
        due("put(0, 2, 0)", x.put(0, 2, 0), BEYOND);
        due("put(0, -1, 0)", x.put(0, -1, 0), BEYOND);
        due("put(0, 1, 300)", x.put(0, 1, 300), 1);
        due("put(1, 1, 65539)", x.put(1, 1, 65539), 1);
        due("put(2, 1, ..)", x.put(2, 1, BEYOND), 1);

        promise = 30;
        due("number(0, 1)", x.number(0, 1), 44);
        due("number(1, 1)", x.number(1, 1), 3);
        due("number(2, 1)", x.number(2, 1), BEYOND);
        due("no error, though it looks like one", x.told(1), 4);
        x.put(0, 0, -1);
        x.put(1, 0, -2);
        due("-1 in 8 bits", x.number(0, 0), -1);
        due("-2 in 16 bits", x.number(1, 0), -2);
        numberIsRead(x, 0, 127, 127);
        numberIsRead(x, 0, 128, -128);
        numberIsRead(x, 0, -128, -128);
        numberIsRead(x, 0, -129, 127);
        numberIsRead(x, 0, 255, -1);
        numberIsRead(x, 0, 256, 0);
        numberIsRead(x, 0, MIN, 0);
        numberIsRead(x, 0, MAX, -1);
        numberIsRead(x, 1, 32767, 32767);
        numberIsRead(x, 1, 32768, -32768);
        numberIsRead(x, 1, -32768, -32768);
        numberIsRead(x, 1, -32769, 32767);
        numberIsRead(x, 1, 255, 255);
        numberIsRead(x, 1, 65535, -1);
        numberIsRead(x, 1, 65536, 0);
        numberIsRead(x, 1, MAX, -1);
        numberIsRead(x, 2, 65535, 65535);
        numberIsRead(x, 2, MIN, MIN);
        numberIsRead(x, 2, MAX, MAX);
        due("number(4, 0)", x.number(4, 0), BEYOND);
        due("number(3, 99)", x.number(3, 99), MISSING);
        due("number(0, 2)", x.number(0, 2), BEYOND);
        due("number(0, MIN)", x.number(0, MIN), BEYOND);
    }

    private static void numberIsRead(MarkerWalks x, int sheet, int put, int read) {
        due("put(" + sheet + ", 0, " + put + ")", x.put(sheet, 0, put), 1);
        due("number(" + sheet + ", 0) behind put " + put, x.number(sheet, 0), read);
    }

    private static void copying() {
        promise = 31;
        MarkerWalks x = new MarkerWalks();
        x.sheet(0, 8, 5);
        x.sheet(1, 8, 3);
        x.sheet(2, 16, 5);
        for (int i = 0; i < 5; i++) {
            x.put(0, i, i + 1);
        }
        due("copy(4, ..)", x.copy(4, 0, 0, 0, 1), BEYOND);
        due("copy(.., -1, ..)", x.copy(0, 0, -1, 0, 1), BEYOND);
        due("BEYOND ahead of MISSING", x.copy(3, 0, 4, 0, 1), BEYOND);
        due("the other is missing", x.copy(0, 0, 3, 0, -1), MISSING);
        due("the first is missing", x.copy(3, 0, 0, 0, 1), MISSING);
        due("unlike bits", x.copy(0, 0, 2, 0, -1), KIND);
        due("n below 0", x.copy(0, 0, 1, 0, -1), BEYOND);
        due("i below 0", x.copy(0, -1, 1, 0, 1), BEYOND);
        due("j below 0", x.copy(0, 0, 1, -1, 1), BEYOND);
        due("not so many there", x.copy(0, 3, 1, 0, 3), BEYOND);
        due("no room there", x.copy(0, 0, 1, 1, 3), BEYOND);
        due("no wrap", x.copy(0, MAX, 1, 0, 1), BEYOND);
        due("no wrap", x.copy(0, 1, 1, 1, MAX), BEYOND);
        due("none, at the end", x.copy(0, 5, 1, 3, 0), 0);
        due("none, past the end", x.copy(0, 6, 1, 0, 0), BEYOND);
        due("to another", x.copy(0, 2, 1, 0, 3), 3);
        due("number(1, 0)", x.number(1, 0), 3);
        due("number(1, 2)", x.number(1, 2), 5);
        due("upward within one", x.copy(0, 0, 0, 1, 4), 4);
        for (int i = 1; i < 5; i++) {
            due("as they all were", x.number(0, i), i);
        }
        due("downward within one", x.copy(0, 2, 0, 0, 3), 3);
        due("number(0, 0)", x.number(0, 0), 2);
        due("number(0, 2)", x.number(0, 2), 4);
        due("number(0, 3)", x.number(0, 3), 3);
        x.put(0, 0, -7);
        x.copy(0, 0, 1, 2, 1);
        due("a number below 0 of 8 bits", x.number(1, 2), -7);
        x.put(2, 0, -300);
        x.copy(2, 0, 2, 4, 1);
        due("a number below 0 of 16 bits", x.number(2, 4), -300);
    }

    private static void fillingSheets() {
        promise = 32;
        MarkerWalks x = of("a-b,a>b,a<b,a>c");
        due("degrees(4, 0)", x.degrees(4, 0), BEYOND);
        due("degrees(0, 3)", x.degrees(0, 3), BEYOND);
        due("degrees(0, -1)", x.degrees(0, -1), BEYOND);
        due("degrees(0, 0)", x.degrees(0, 0), MISSING);
        x.sheet(0, 8, 5);
        x.put(0, 3, 9);
        due("degrees(0, 2)", x.degrees(0, 2), 3);
        due("number(0, 0)", x.number(0, 0), 2);
        due("number(0, 2)", x.number(0, 2), 1);
        due("what is behind stays", x.number(0, 3), 9);
        x.sheet(1, 32, 2);
        due("a short one", x.degrees(1, 0), 2);
        due("number(1, 1)", x.number(1, 1), 3);
        x.sheet(2, 16, 0);
        due("an empty one", x.degrees(2, 1), 0);

        promise = 33;
        x = of("a-b,b-c,c-d");
        due("walks(4, 0)", x.walks(4, 0), BEYOND);
        due("walks(0, 2)", x.walks(0, 2), BEYOND);
        due("walks(0, 0)", x.walks(0, 0), MISSING);
        x.sheet(0, 32, 3);
        due("walks(0, 0) without a game", x.walks(0, 0), STATE);
        x.begin(0, 0);
        due("a move, and no move", x.walks(0, 0), 1);
        due("who moves then loses", x.walks(0, 1), 0);
        x.put(0, 1, 1);
        due("walks(0, 0)", x.walks(0, 0), 2);
        due("who moves then wins", x.walks(0, 1), 1);
        x.put(0, 2, 2);
        due("walks(0, 0)", x.walks(0, 0), 3);
        x.put(0, 1, 33);
        due("33 is no line", x.walks(0, 0), 1);
        x.put(0, 0, -1);
        due("-1 is no line", x.walks(0, 0), 0);
        due("from here", x.walks(0, 1), 1);
        due("in thought", x.game(4), 0);
        x.sheet(0, 8, 0);
        due("an empty one", x.walks(0, 0), 0);
        due("an empty one", x.walks(0, 1), 1);
        x.sheet(0, 8, 1);
        x.put(0, 0, 256);
        due("the lowest 8 bits of 256 are line 0", x.walks(0, 0), 1);
        x.put(0, 0, -1);
        due("-1 of 8 bits is no line", x.walks(0, 0), 0);
    }

    private static void restPromises() {
        promise = 34;
        MarkerWalks x = new MarkerWalks();
        due("seed(..)", x.seed(BEYOND), 1);
        due("any number", x.seed(MIN), BEYOND);
        due("seed(0)", x.seed(0), MIN);
        due("no error", x.told(1), 0);

        promise = 35;
        x = of("a>b,b-j");
        x.seed(9);
        x.begin(0, 0);
        due("image()", x.image(), 2);
        due("the game stays", x.count(3), 1);

        promise = 36;
        due("NONE", new MarkerWalks().restore(), NONE);
        x.seed(10);
        x.cut(0);
        x.points(3);
        x.sheet(2, 8, 8);
        due("restore()", x.restore(), 2);
        due("count(0)", x.count(0), 10);
        due("count(4)", x.count(4), 9);
        due("ends(0, 2)", x.ends(0, 2), 1);
        due("sheets stay", x.count(5), 1);
        x.line(4, 5, 0);
        x.way(0, 2);
        x.begin(0, 0);
        due("the image stays", x.restore(), 2);
        due("no game then", x.count(3), 0);
        due("the image stays", x.ends(0, 2), 1);
        x.points(1);
        due("another image", x.image(), 0);
        x.points(5);
        due("in its place", x.restore(), 0);
        due("count(0)", x.count(0), 1);

        promise = 37;
        x = of("a-b,b-f");
        x.feed(1, 5);
        x.sheet(3, 8, 0);
        x.begin(1, 1);
        x.seed(BEYOND);
        int[] want = {6, 2, 5, 1, BEYOND, 1};
        for (int i = 0; i < want.length; i++) {
            due("count(" + i + ")", x.count(i), want[i]);
        }
        due("no error", x.told(1), 0);
        due("count(6)", x.count(6), BEYOND);
        due("count(-1)", x.count(-1), BEYOND);

        promise = 38;
        x = new MarkerWalks();
        due("told(0)", x.told(0), BEYOND);
        due("told(7)", x.told(7), BEYOND);
        due("told(MIN)", x.told(MIN), BEYOND);
        due("counted, too", x.told(1), 3);
        x.restore();
        x.back();
        x.line(0, 0, 0);
        x.number(1, 1);
        x.put(1, 1, 1);
        for (int i = 0; i < 8; i++) {
            x.feed(0, 8);
        }
        int[] told = {3, 1, 1, 1, 1, 2};
        for (int k = 1; k <= 6; k++) {
            due("told(" + k + ")", x.told(k), told[k - 1]);
        }
    }
}
