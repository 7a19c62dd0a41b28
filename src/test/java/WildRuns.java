import java.util.Random;

/** Calls with any arguments, in any state and far behind the 512th call: none throws, and none takes long. */
public final class WildRuns {
    private static final int[] ODD = {
        Integer.MIN_VALUE, Integer.MIN_VALUE + 1, -1100000001, -32, -1, 0, 1, 2, 3, 4, 5, 7, 8, 9, 10, 11, 12, 13, 15, 16,
        20, 24, 25, 31, 32, 33, 60, 64, 255, 256, 1023, 1024, 4095, 7777, 65536, Integer.MAX_VALUE - 1, Integer.MAX_VALUE};

    private static int any(Random random) {
        int die = random.nextInt(10);
        if (die < 6) {
            return random.nextInt(12);
        }
        return die == 6 ? random.nextInt() : ODD[random.nextInt(ODD.length)];
    }

    public static void main(String[] args) {
        for (int run = 0; run < 60; run++) {
            Random random = new Random(run);
            MarkerWalks x = new MarkerWalks();
            for (int i = 0; i < 4000; i++) {
                int kind = random.nextInt(45);
                if (kind >= 40) {
                    x.line(random.nextInt(10), random.nextInt(10), random.nextInt(3));
                } else if (kind >= 38) {
                    x.begin(random.nextInt(5), random.nextInt(4));
                } else if (kind != 0 || random.nextInt(10) == 0) {
                    call(x, kind, random);
                }
            }
        }
        sameNetworkOverAndOver();
        System.out.println("no call threw");
    }

    /** So many turns of the same object that whatever counts them has to hold. */
    private static void sameNetworkOverAndOver() {
        MarkerWalks x = new MarkerWalks();
        x.line(0, 1, 0);
        x.line(1, 2, 0);
        x.begin(0, 0);
        for (int i = 0; i < 300000; i++) {
            if (x.starts(i % 5) != (i % 5 == 4 ? 13 : 2)) {
                System.out.println("starts(" + i % 5 + ") is another one the " + i + "th time");
                System.exit(1);
            }
            if (x.game(7) != 1) {
                System.out.println("the game is won by another one the " + i + "th time");
                System.exit(1);
            }
        }
    }

    private static void call(MarkerWalks x, int kind, Random r) {
        int a = any(r);
        int b = any(r);
        int c = any(r);
        switch (kind) {
            case 0: x.points(a); break;
            case 1: x.line(a, b, c); break;
            case 2: x.way(a, b); break;
            case 3: x.cut(a); break;
            case 4: x.ends(a, b); break;
            case 5: x.at(a, b); break;
            case 6: x.sides(); break;
            case 7: x.pairing(a, b); break;
            case 8: x.needed(); break;
            case 9: x.kernel(a); break;
            case 10: x.feed(r.nextLong(), a); break;
            case 11: x.network(); break;
            case 12: x.begin(a, b); break;
            case 13: x.go(a); break;
            case 14: x.back(); break;
            case 15: x.game(a); break;
            case 16: x.moved(a); break;
            case 17: x.moves(a); break;
            case 18: x.worth(a); break;
            case 19: x.reach(); break;
            case 20: x.starts(a); break;
            case 21: x.tells(a); break;
            case 22: x.play(a, b, c); break;
            case 23: x.fight(a, b, c); break;
            case 24: x.tree(a); break;
            case 25: x.node(a); break;
            case 26: x.sheet(a, b, c); break;
            case 27: x.put(a, b, c); break;
            case 28: x.number(a, b); break;
            case 29: x.copy(a, b, c, any(r), any(r)); break;
            case 30: x.degrees(a, b); break;
            case 31: x.walks(a, b); break;
            case 32: x.seed(a); break;
            case 33: x.image(); break;
            case 34: x.restore(); break;
            case 35: x.count(a); break;
            default: x.told(a); break;
        }
    }
}
