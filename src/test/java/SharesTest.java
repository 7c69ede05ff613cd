/** Promises 22 to 25: share, chance, seed, drawn. */
public final class SharesTest {
    private static final Due due = new Due("SharesTest");

    public static void main(String[] args) {
        sharesOfOne();
        sharesOfTwo();
        sharesBelowNothing();
        sharesOfEight();
        chances();
        chancesAtTheEdges();
        seeds();
        draws();
        drawsFromThere();
        due.end();
    }

    private static void shareIs(HeatLines x, int dot, int above, int below) {
        due.is("share(" + dot + ", true)", x.share(dot, true), above);
        due.is("share(" + dot + ", false)", x.share(dot, false), below);
    }

    private static void chanceIs(HeatLines x, int v, int tenths, int above, int below) {
        due.is("chance(" + v + ", " + tenths + ", true)", x.chance(v, tenths, true), above);
        due.is("chance(" + v + ", " + tenths + ", false)", x.chance(v, tenths, false), below);
    }

    private static void sharesOfOne() {
        HeatLines x = Due.told("H11105012099999999lo");
        shareIs(x, 0, 1, 1);
        x.ribbon(0);
        shareIs(x, 0, 1, 1);
        x.put(0);
        shareIs(x, 0, 1, 1);
        shareIs(Due.told("H11100012099999999lo"), 0, 0, 1);
        shareIs(Due.told("H11105012099999999"), 0, 0, 1);
        due.is("share(1, true)", x.share(1, true), HeatLines.UNKNOWN);
        due.is("share(-1, false)", x.share(-1, false), HeatLines.UNKNOWN);
    }

    private static void sharesOfTwo() {
        // Both in one line, 9 each: alone 90 and 18, together 108 each.
        shareIs(Due.told("H21110099999999999loo"), 0, 1, 1);
        shareIs(Due.told("H21115099999999999loo"), 0, 0, 1);
        // 90 is pale at any time; dot 0 is 99 by what is left of dot 1 a line ahead: right by both alone.
        HeatLines x = Due.told("H21109509999999999l-olo-");
        shareIs(x, 0, 1, 2);
        shareIs(x, 1, 1, 2);
    }

    private static void sharesBelowNothing() {
        // None: 0; dot 0: its 90 is right: 1; dot 1: the same: 1; both: dot 0 is 99, dark: 1.
        HeatLines x = Due.told("H21109009099999999l-olo-");
        shareIs(x, 0, 1, 2);
        shareIs(x, 1, 1, 2);
        HeatLines y = Due.told("H21109009099999900lo-l-oloo");
        int[] right = new int[4];
        for (int come = 0; come < 4; come++) {
            right[come] = rightOfThree(come);
        }
        int twice = right[1] - right[0] + right[3] - right[2];
        due.is("a share of " + twice + " by two", y.share(0, true) * 2, twice * y.share(0, false));
        // By low 0, high 0 cold dots are right: each that comes spoils itself and its neighbours.
        HeatLines less = Due.told("H31100000099999999looo");
        due.is("less than 0", less.share(1, true) < 0 ? 1 : 0, 1);
        due.is("below is more than 0", less.share(1, false) > 0 ? 1 : 0, 1);
        // Dot 1 spoils 3 as the first, 1 behind one other, none as the last: 4 by 3 in the mean.
        shareIs(less, 1, -4, 3);
        shareIs(less, 0, -5, 6);
        shareIs(less, 2, -5, 6);
    }

    /** Table 9 9 9 0 0 over o-, -o, oo with the dots that have come alive. */
    private static int rightOfThree(int come) {
        int[][] pulses = {{9, 0}, {0, 9}, {9, 9}};
        int[] black = {1, 2, 3};
        int[] heat = {0, 0};
        int right = 0;
        for (int i = 0; i < 3; i++) {
            int a = (come & 1) != 0 ? pulses[i][0] : 0;
            int b = (come & 2) != 0 ? pulses[i][1] : 0;
            heat[0] = heat[0] - (heat[0] >> 1) + 10 * a + 2 * b;
            heat[1] = heat[1] - (heat[1] >> 1) + 10 * b + 2 * a;
            right += (black[i] & 1) != 0 && heat[0] == 90 ? 1 : 0;
            right += (black[i] & 2) != 0 && heat[1] == 90 ? 1 : 0;
        }
        return right;
    }

    private static void sharesOfEight() {
        HeatLines x = Due.told("H81100000099999999loooooooo");
        // All is right cold; in all eight are spoiled, the ends by two dots, others by three.
        shareIs(x, 0, -5, 6);
        shareIs(x, 1, -7, 6);
        shareIs(x, 3, -1, 1);
        due.is("share(8, true)", x.share(8, true), HeatLines.UNKNOWN);
    }

    private static void chances() {
        HeatLines x = Due.told("H21105012099999999loo");
        // Each is right, if it lives: 0.7 each.
        chanceIs(x, 0, 3, 1, 1);
        chanceIs(x, 1, 3, 91, 100);
        chanceIs(x, 2, 3, 49, 100);
        chanceIs(x, 3, 3, 0, 1);
        x.ribbon(0);
        chanceIs(x, 2, 5, 1, 4);
        HeatLines wide = Due.told("H81105099999999999loooooooo");
        chanceIs(wide, 8, 9, 1, 100000000);
        chanceIs(wide, 1, 1, 99999999, 100000000);
        // Counted is the queue alone, not what was right ahead of it.
        x.ribbon(9);
        x.print(1);
        chanceIs(x, 1, 3, 0, 1);
        chanceIs(x, 0, 3, 1, 1);
    }

    private static void chancesAtTheEdges() {
        HeatLines x = Due.told("H21105012099999999loo");
        chanceIs(x, 2, 0, 1, 1);
        chanceIs(x, 1, 10, 0, 1);
        chanceIs(x, 0, 10, 1, 1);
        chanceIs(x, 64, 0, 0, 1);
        due.is("chance(65, 0)", x.chance(65, 0, true), HeatLines.BAD);
        due.is("chance(-1, 0)", x.chance(-1, 0, true), HeatLines.BAD);
        due.is("chance(0, 11)", x.chance(0, 11, false), HeatLines.BAD);
        due.is("chance(0, -1)", x.chance(0, -1, false), HeatLines.BAD);
        // A dead dot is right, if others heat it so: 18 of its neighbour, which has to live: 2 * 0.6 * 0.4.
        HeatLines dead = Due.told("H21101802099999999loo");
        chanceIs(dead, 1, 4, 12, 25);
    }

    private static void seeds() {
        HeatLines x = new HeatLines();
        due.is("seed(MAX)", x.seed(Long.MAX_VALUE), 0);
        due.is("seed(MIN)", x.seed(Long.MIN_VALUE), Long.MAX_VALUE);
        due.is("seed(-5)", x.seed(-5), Long.MIN_VALUE);
        due.is("seed is no act", x.about(17), 0);
        due.is("seed(0)", x.seed(0), -5);
    }

    private static void draws() {
        HeatLines x = new HeatLines();
        due.is("drawn(0)", x.drawn(0), HeatLines.BAD);
        due.is("drawn(21)", x.drawn(21), HeatLines.BAD);
        due.is("drawn(-1)", x.drawn(-1), HeatLines.BAD);
        due.is("a bad one leaves the seed", x.seed(0), 0);
        long seed = 0;
        for (int m = 1; m <= 20; m++) {
            int black = 0;
            for (int i = 0; i < m; i++) {
                seed = seed * 6364136223846793005L + 1442695040888963407L;
                black += (int) (seed >>> 33) & 1;
            }
            // Cold, low and high 0: each black dot is right.
            due.is("drawn(" + m + ")", x.drawn(m), black);
            due.is("the seed behind it", x.seed(seed), seed);
        }
        due.is("nothing is printed", x.about(14), 0);
        due.is("nothing is right", x.about(10), 0);
        due.is("last stays", x.about(7), 0);
    }

    /** What is drawn is as if these lines were put and printed, from how it stands. */
    private static void drawsFromThere() {
        HeatLines x = Due.told("H52205015099997531loo-o-looo--l-----");
        x.print(2);
        x.ribbon(0);
        x.seed(12345);
        HeatLines y = Due.told("H52205015099997531loo-o-looo--");
        y.print(2);
        int rightAhead = y.about(10);
        long seed = 12345;
        for (int i = 0; i < 20; i++) {
            seed = seed * 6364136223846793005L + 1442695040888963407L;
            y.put((int) (seed >>> 33) & 31);
            y.print(1);
        }
        String was = Due.allOf(x);
        due.is("right ahead", rightAhead, x.about(10));
        due.is("drawn(20)", x.drawn(20), y.about(10) - rightAhead);
        due.isTrue("some are right", y.about(10) > rightAhead);
        due.unchanged("drawn", was, x);
        due.is("the seed", x.seed(0), seed);
    }
}
