/** Part 2 of the document, sentence by sentence: ahead, the run, fit, rest, judged. */
public final class EdgesOfPart2Test {
    private static final Due due = new Due("EdgesOfPart2Test");
    private static final int NONE = HeatLines.NONE;

    public static void main(String[] args) {
        aheadOfNoneAndOfAll();
        firstAndLastSpeed();
        oneLineAlone();
        speedNoMoreThanMost();
        speedsApartByOne();
        asGreatAsCanBe();
        ticksOfSome();
        ticksOfNone();
        fitIsTheLeastOfLikeOnes();
        fitAtTheEndsOfTheFigures();
        fitOfAnEmptyQueue();
        leastRest();
        restOfSixty();
        restOfNone();
        judgedDoings();
        judgedPut();
        judgedPrinting();
        judgedPause();
        judgedRight();
        judgedLast();
        judgedTable();
        judgedFirstThatCanNotBe();
        judgedNone();
        due.end();
    }

    private static void aheadOfNoneAndOfAll() {
        due.says("AHEAD: how it is behind PRINTING n LINES");
        HeatLines x = Jobs.of(2).lines(Jobs.same(1, 8)).told();
        HeatLines y = Jobs.of(2).lines(Jobs.same(1, 8)).told();
        for (int n = 0; n <= 9; n++) {
            due.is("dot 0 ahead by " + n, x.ahead(n, 0), y.heat(0));
            due.is("dot 1 ahead by " + n, x.ahead(n, 1), y.heat(1));
            y.print(1);
        }
        due.is("of none", new HeatLines().ahead(9, 0), 0);
        x.ribbon(0);
        due.is("without ribbon", x.ahead(9, 0), 0);
        x.ribbon(1);
        due.is("with ribbon for one", x.ahead(9, 0), 90);
    }

    private static void speedsAre(HeatLines x, int... want) {
        for (int i = 0; i < want.length; i++) {
            due.is("speed " + i + " of " + want.length, x.line(i, 3), want[i]);
        }
        due.is("no more of them", x.line(want.length, 3), NONE);
    }

    private static void firstAndLastSpeed() {
        due.says("the first and the last are 1 at most, as long as there is more than one");
        speedsAre(Jobs.of(1).lines(0, 0).told(), 1, 1);
        speedsAre(Jobs.of(1).lines(0, 0, 0).told(), 1, 2, 1);
        speedsAre(Jobs.of(1).lines(Jobs.same(0, 7)).told(), 1, 2, 3, 4, 3, 2, 1);
        speedsAre(Jobs.of(1).lines(Jobs.same(0, 8)).told(), 1, 2, 3, 4, 4, 3, 2, 1);
    }

    private static void oneLineAlone() {
        due.says("if there is one LINE alone, its SPEED is 1");
        speedsAre(Jobs.of(1).lines(0).told(), 1);
        speedsAre(Jobs.of(8).lines(255).told(), 1);
        HeatLines x = Jobs.of(1).lines(0, 0, 0).told();
        x.print(2);
        speedsAre(x, 1);
    }

    private static void speedNoMoreThanMost() {
        due.says("no SPEED is more than MOST of its LINE");
        // By 72 the most is 1, by 63 it is 2, by 54 it is 3: 8, 7, 6 dots of 9 one by one.
        speedsAre(Jobs.of(8).lines(0, 0, 0, 255, 0, 0, 0, 0).told(), 1, 2, 2, 1, 2, 3, 2, 1);
        speedsAre(Jobs.of(8).lines(0, 0, 0, 127, 0, 0, 0, 0).told(), 1, 2, 3, 2, 3, 3, 2, 1);
        speedsAre(Jobs.of(8).lines(0, 0, 0, 63, 0, 0, 0, 0).told(), 1, 2, 3, 3, 4, 3, 2, 1);
        speedsAre(Jobs.of(8).lines(0, 0, 0, 31, 0, 0, 0, 0).told(), 1, 2, 3, 4, 4, 3, 2, 1);
        speedsAre(Jobs.of(8).lines(Jobs.same(255, 8)).told(), 1, 1, 1, 1, 1, 1, 1, 1);
    }

    private static void speedsApartByOne() {
        due.says("SPEEDS of LINES side by side are apart by no more than 1");
        speedsAre(Jobs.of(8).lines(0, 0, 255, 0, 0, 255, 0, 0).told(), 1, 2, 1, 2, 2, 1, 2, 1);
        speedsAre(Jobs.of(8).lines(0, 255, 0, 0, 0, 0, 0, 0).told(), 1, 1, 2, 3, 4, 3, 2, 1);
        speedsAre(Jobs.of(8).lines(0, 0, 0, 0, 0, 0, 255, 0).told(), 1, 2, 3, 4, 3, 2, 1, 1);
    }

    private static void asGreatAsCanBe() {
        due.says("SPEED .. is the greatest whole number such that .. (All as great as can be, together.)");
        int[] blackDots = {0, 15, 31, 63, 127, 255};
        for (int run = 0; run < 40; run++) {
            int[] sets = new int[1 + run % 8];
            for (int i = 0; i < sets.length; i++) {
                sets[i] = blackDots[(run * 7 + i * i * 3 + i * run) % 6];
            }
            HeatLines x = Jobs.of(8).lines(sets).told();
            int[] greatest = greatestSpeeds(x, sets.length);
            for (int i = 0; i < sets.length; i++) {
                due.is("speed " + i + " in run " + run, x.line(i, 3), greatest[i]);
            }
        }
    }

    /** Tries all speeds of 1 .. 5: beyond 4 none can be, since eight lines go up from 1 and down to 1. */
    private static int[] greatestSpeeds(HeatLines x, int k) {
        int[] most = new int[k];
        for (int i = 0; i < k; i++) {
            most[i] = x.line(i, 2);
        }
        int[] greatest = new int[k];
        int all = (int) Math.pow(5, k);
        for (int code = 0; code < all; code++) {
            int[] speeds = new int[k];
            int left = code;
            for (int i = 0; i < k; i++) {
                speeds[i] = 1 + left % 5;
                left /= 5;
            }
            if (mayRun(speeds, most)) {
                for (int i = 0; i < k; i++) {
                    greatest[i] = Math.max(greatest[i], speeds[i]);
                }
            }
        }
        return greatest;
    }

    private static boolean mayRun(int[] speeds, int[] most) {
        int k = speeds.length;
        boolean may = speeds[0] == 1 && speeds[k - 1] == 1;
        for (int i = 0; i < k; i++) {
            may &= speeds[i] <= most[i];
            may &= i == 0 || Math.abs(speeds[i] - speeds[i - 1]) <= 1;
        }
        return may;
    }

    private static void ticksOfSome() {
        due.says("TICKS: 60 by SPEED (cut) of each LINE, together");
        due.is("one", Jobs.of(1).lines(0).told().about(15), 60);
        due.is("two", Jobs.of(1).lines(0, 0).told().about(15), 120);
        due.is("three", Jobs.of(1).lines(0, 0, 0).told().about(15), 150);
        due.is("eight", Jobs.of(1).lines(Jobs.same(0, 8)).told().about(15), 2 * (60 + 30 + 20 + 15));
        due.is("eight slow ones", Jobs.of(8).lines(Jobs.same(255, 8)).told().about(15), 480);
    }

    private static void ticksOfNone() {
        due.says("TICKS: .. 0, if THE QUEUE is empty");
        due.is("at first", new HeatLines().about(15), 0);
        due.is("of a job without lines", Jobs.of(8).told().about(15), 0);
        HeatLines x = Jobs.of(8).lines(255).told();
        x.print(1);
        due.is("behind the last line", x.about(15), 0);
    }

    private static void fitIsTheLeastOfLikeOnes() {
        due.says("FIT: .. most DOTS are RIGHT in it; of like ones the least");
        due.is("40 to 60", Jobs.of(1).low(40).high(60).table("90000").lines(1).told().fit(0), 4);
        due.is("41 to 60", Jobs.of(1).low(41).high(60).table("90000").lines(1).told().fit(0), 5);
        due.is("all alike", Jobs.of(1).table("90000").lines(1).told().fit(0), 0);
        due.is("none is right", Jobs.of(1).low(999).table("90000").lines(1).told().fit(0), 0);
        // Two lines far apart: 50 and 54 by 5, 60 and 64 by 6.
        due.is("one by 5, two by 6", Jobs.of(1).low(53).high(65).table("90000").lines(1, 0, 0, 0, 1).told().fit(0), 6);
        due.is("one by 5, one by 6", Jobs.of(1).low(53).high(63).table("90000").lines(1, 0, 0, 0, 1).told().fit(0), 5);
    }

    private static void fitAtTheEndsOfTheFigures() {
        due.says("FIT of a place i of THE TABLE: the figure (0 .. 9) that it may be told by");
        due.is("9 is the most", Jobs.of(1).low(81).table("90000").lines(1).told().fit(0), 9);
        due.is("none beyond 9", Jobs.of(1).low(91).table("90000").lines(1).told().fit(0), 0);
        due.is("0 is the least", Jobs.of(1).high(9).table("90000").lines(1).told().fit(0), 0);
        // t1 of two side by side gives 12 each; it may be from t2 to t0.
        due.is("no more than t0", Jobs.of(2).low(84).table("75300").lines(3).told().fit(1), 7);
        due.is("not above t0", Jobs.of(2).low(85).table("75300").lines(3).told().fit(1), 3);
        due.is("no less than t2", Jobs.of(2).high(36).table("75300").lines(3).told().fit(1), 3);
        due.is("not below t2", Jobs.of(2).high(35).table("75300").lines(3).told().fit(1), 3);
    }

    private static void fitOfAnEmptyQueue() {
        due.says("FIT: of like ones the least (THE QUEUE being empty, all are alike)");
        HeatLines x = Jobs.of(1).table("86420").told();
        int[] least = {6, 4, 2, 0, 0};
        for (int i = 0; i < 5; i++) {
            due.is("fit(" + i + ")", x.fit(i), least[i]);
            due.is("at first: fit(" + i + ")", new HeatLines().fit(i), 0);
        }
    }

    private static void leastRest() {
        due.says("REST: the least k (0 .. 60) so that behind a PAUSE k (0: none) the first LINE of THE QUEUE, "
            + "PRINTED, has no DARK DOT and no GHOST");
        due.is("cold", Jobs.of(1).high(90).lines(1).told().about(16), 0);
        int[] high = {135, 134, 113, 112, 102, 101, 96, 95, 93, 92, 91};
        int[] want = {0, 1, 1, 2, 2, 3, 3, 4, 4, 5, 6};
        for (int i = 0; i < high.length; i++) {
            HeatLines x = Jobs.of(1).high(high[i]).lines(1, 1).told();
            x.print(1);
            // 90 is left: 45 23 12 6 3 2 1 behind cooling, of which one is the line's own.
            due.is("rest by " + high[i], x.about(16), want[i]);
            x.pause(Math.max(1, want[i]));
            due.is("rest behind it", x.about(16), 0);
        }
        int[] ghost = {45, 44, 23, 22};
        int[] until = {0, 1, 1, 2};
        for (int i = 0; i < ghost.length; i++) {
            HeatLines x = Jobs.of(1).ghost(ghost[i]).lines(1, 0).told();
            x.print(1);
            due.is("rest by a ghost of " + ghost[i], x.about(16), until[i]);
        }
    }

    /** A dot at 999 and a blank line behind it, that is a ghost until so many coolings are over. */
    private static HeatLines ghostFor(int coolings) {
        int heat = 999;
        for (int i = 0; i < coolings; i++) {
            heat -= heat >> 4;
        }
        HeatLines x = Jobs.of(3).cool(4).ghost(heat).told();
        for (int i = 0; i < 40; i++) {
            x.put(7);
            x.print(1);
        }
        due.is("heat of the middle one", x.heat(1), 999);
        x.put(0);
        return x;
    }

    private static void restOfSixty() {
        due.says("REST: the least k (0 .. 60)");
        // The line itself is cooled once, too.
        due.is("59 and one", ghostFor(60).about(16), 59);
        due.is("60 and one", ghostFor(61).about(16), 60);
        HeatLines x = ghostFor(62);
        due.is("61 and one", x.about(16), NONE);
        x.pause(1);
        due.is("61 and one behind a pause", x.about(16), 60);
        x.pause(60);
        due.is("behind 61 pauses", x.about(16), 0);
    }

    private static void restOfNone() {
        due.says("REST: .. NONE: by none, or THE QUEUE is empty");
        due.is("at first", new HeatLines().about(16), NONE);
        due.is("of no lines", Jobs.of(8).told().about(16), NONE);
        due.is("dark by itself", Jobs.of(1).high(89).lines(1).told().about(16), NONE);
        due.is("just not dark", Jobs.of(1).high(90).lines(1).told().about(16), 0);
        due.is("a ghost by itself", Jobs.of(2).ghost(17).lines(1).told().about(16), NONE);
        due.is("just no ghost", Jobs.of(2).ghost(18).lines(1).told().about(16), 0);
        HeatLines x = Jobs.of(1).ghost(0).lines(1, 0).told();
        x.print(1);
        due.is("1 is never less", x.about(16), NONE);
    }

    private static void judgedDoings() {
        due.says("JUDGED: n doings (1 .. 4), told as four figures each, the first doing's the highest of row");
        HeatLines x = Jobs.of(2).lines(1).told();
        due.is("none", x.judge(0, 0), HeatLines.BAD);
        due.is("one", x.judge(1, 2001), NONE);
        due.is("two", x.judge(2, 20011003L), NONE);
        due.is("three", x.judge(3, 200110032001L), NONE);
        due.is("four", x.judge(4, 2001100320015101L), NONE);
        due.is("five", x.judge(5, 2001L), HeatLines.BAD);
        due.is("the other way round", x.judge(4, 5101200110032001L), 0);
        long[] least = {10000L, 100000000L, 1000000000000L, 10000000000000000L};
        for (int n = 1; n <= 4; n++) {
            due.is("0 of " + n, x.judge(n, 0), 0);
            due.is("-1 of " + n, x.judge(n, -1), HeatLines.BAD);
            due.is("as many figures as can be of " + n, x.judge(n, least[n - 1] - 1), 0);
            due.is("one figure more than can be of " + n, x.judge(n, least[n - 1]), HeatLines.BAD);
            due.is("the least long of " + n, x.judge(n, Long.MIN_VALUE), HeatLines.BAD);
            due.is("the greatest long of " + n, x.judge(n, Long.MAX_VALUE), HeatLines.BAD);
        }
        due.is("figures of another doing ahead", x.judge(1, 12001L), HeatLines.BAD);
        due.is("fewer figures: the first doing is 0000", x.judge(2, 2001L), 0);
    }

    private static void judgedPut() {
        due.says("1, three figures w: PUT");
        for (int n = 1; n <= 8; n++) {
            HeatLines x = Jobs.of(n).told();
            int all = (1 << n) - 1;
            due.is("put none of " + n, x.judge(1, 1000), NONE);
            due.is("put all of " + n, x.judge(1, 1000 + all), NONE);
            due.is("put one more than all of " + n, x.judge(1, 1000 + all + 1), 0);
            due.is("put 999 of " + n, x.judge(1, 1999), 0);
        }
        HeatLines seven = Jobs.of(1).lines(Jobs.same(0, 7)).told();
        due.is("an eighth", seven.judge(1, 1001), NONE);
        due.is("an eighth, a ninth", seven.judge(2, 10011001L), 1);
        HeatLines eight = Jobs.of(1).lines(Jobs.same(0, 8)).told();
        due.is("a ninth", eight.judge(1, 1001), 0);
        due.is("a ninth behind printing", eight.judge(2, 20011001L), NONE);
    }

    private static void judgedPrinting() {
        due.says("2, 0, 0, n: PRINTING n (1 .. 9) LINES, of which all can be");
        HeatLines x = Jobs.of(1).lines(Jobs.same(1, 8)).told();
        due.is("0", x.judge(1, 2000), 0);
        for (int n = 1; n <= 9; n++) {
            due.is(n + " of 8", x.judge(1, 2000 + n), n <= 8 ? NONE : 0);
        }
        due.is("10", x.judge(1, 2010), 0);
        due.is("a figure that is no 0", x.judge(1, 2101), 0);
        due.is("one of none", new HeatLines().judge(1, 2001), 0);
        x.ribbon(7);
        due.is("7 by a ribbon of 7", x.judge(1, 2007), NONE);
        due.is("8 by a ribbon of 7", x.judge(1, 2008), 0);
        x.ribbon(0);
        due.is("1 by no ribbon", x.judge(1, 2001), 0);
        HeatLines blank = Jobs.of(1).lines(Jobs.same(0, 8)).told();
        blank.ribbon(0);
        due.is("8 blank ones by no ribbon", blank.judge(1, 2008), NONE);
    }

    private static void judgedPause() {
        due.says("3, 0, two figures: PAUSE");
        HeatLines x = new HeatLines();
        due.is("00", x.judge(1, 3000), 0);
        due.is("01", x.judge(1, 3001), NONE);
        due.is("99", x.judge(1, 3099), NONE);
        due.is("a figure that is no 0", x.judge(1, 3101), 0);
        due.is("100", x.judge(1, 3100), 0);
        due.is("999", x.judge(1, 3999), 0);
    }

    private static void judgedRight() {
        due.says("4, three figures: so many are RIGHT in all");
        HeatLines x = Jobs.of(8).told();
        due.is("0 of 0", x.judge(1, 4000), NONE);
        due.is("1 of 0", x.judge(1, 4001), 0);
        x.ribbon(999);
        for (int i = 0; i < 15; i++) {
            putEight(x, 255);
        }
        due.is("right", x.about(10), 960);
        for (int i = 0; i < 4; i++) {
            x.put(255);
        }
        x.put(127);
        due.is("959", x.judge(1, 4959), 0);
        due.is("960", x.judge(1, 4960), NONE);
        due.is("961", x.judge(1, 4961), 0);
        due.is("999 behind five", x.judge(2, 20054999L), NONE);
        due.is("998 behind five", x.judge(2, 20054998L), 1);
        x.put(1);
        x.print(6);
        due.is("right", x.about(10), 1000);
        due.is("1000 is not 999", x.judge(1, 4999), 0);
        due.is("1000 is not 000", x.judge(1, 4000), 0);
    }

    private static void putEight(HeatLines x, int w) {
        for (int i = 0; i < 8; i++) {
            x.put(w);
        }
        x.print(8);
    }

    private static void judgedLast() {
        due.says("5, a DOT, 0, 1 or 0: it is in LAST, or not");
        for (int n = 1; n <= 8; n++) {
            HeatLines x = Jobs.of(n).lines(1 << n - 1).told();
            x.print(1);
            for (int d = 0; d <= 9; d++) {
                boolean there = d < n;
                boolean in = d == n - 1;
                due.is(d + " of " + n + " is in last", x.judge(1, 5001 + 100 * d), in ? NONE : 0);
                due.is(d + " of " + n + " is not", x.judge(1, 5000 + 100 * d), there && !in ? NONE : 0);
            }
        }
        HeatLines first = new HeatLines();
        due.is("at first it is not", first.judge(1, 5000), NONE);
        due.is("at first it is", first.judge(1, 5001), 0);
        due.is("a 2", first.judge(1, 5002), 0);
        due.is("a 9", first.judge(1, 5009), 0);
        due.is("a figure that is no 0", first.judge(1, 5010), 0);
        due.is("a figure that is no 0, and 1", first.judge(1, 5091), 0);
    }

    private static void judgedTable() {
        due.says("6, 0, i, v: TABLE told");
        HeatLines x = Jobs.of(1).table("86552").told();
        int[] figures = {8, 6, 5, 5, 2};
        for (int i = 0; i <= 9; i++) {
            for (int v = 0; v <= 9; v++) {
                boolean may = i <= 4 && v <= (i == 0 ? 9 : figures[i - 1]) && v >= (i == 4 ? 0 : figures[i + 1]);
                due.is("t" + i + " is " + v, x.judge(1, 6000 + 10 * i + v), may ? NONE : 0);
            }
        }
        due.is("a figure that is no 0", x.judge(1, 6108), 0);
        due.is("room is made ahead", x.judge(2, 60096018L), NONE);
        due.is("and then more", x.judge(3, 600960196029L), NONE);
        due.is("without room", x.judge(2, 60196009L), 0);
    }

    private static void judgedFirstThatCanNotBe() {
        due.says("the place (from 0) of the first that can not be (or is not so), what is ahead of it being done");
        HeatLines x = Jobs.of(1).lines(1).told();
        due.is("0", x.judge(4, 9000900090009000L), 0);
        due.is("1", x.judge(4, 2001900090009000L), 1);
        due.is("2", x.judge(4, 2001300190009000L), 2);
        due.is("3", x.judge(4, 2001300140019000L), 3);
        due.is("what was done ahead counts", x.judge(3, 200120011001L), 1);
        due.is("put, then print it", x.judge(3, 200110012001L), NONE);
        for (int first : new int[] {0, 7, 8, 9}) {
            due.is("there is no doing " + first, x.judge(1, 1000 * first + 1), 0);
        }
    }

    private static void judgedNone() {
        due.says("JUDGED: .. NONE: none. 1, 2, 3, 6 are done, 4, 5 asked");
        HeatLines x = Jobs.of(1).low(90).high(90).table("80000").lines(1).told();
        due.is("told, printed, right, in last", x.judge(4, 6009200140015001L), NONE);
        due.is("not told: 80 is not right", x.judge(2, 20014001L), 1);
        HeatLines y = Jobs.of(1).high(113).lines(1, 1).told();
        due.is("a pause is done", y.judge(4, 2001300120014002L), NONE);
        due.is("without it", y.judge(2, 20024002L), 1);
        due.is("what is asked twice stays so", y.judge(4, 4000500040005000L), NONE);
        due.is("nothing was done in truth", y.about(14) + y.about(17), 0);
    }
}
