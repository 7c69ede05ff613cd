import java.math.BigInteger;

/** Part 3 of the document, sentence by sentence: seen, which, share, chance, drawn, slots. */
public final class EdgesOfPart3Test {
    private static final Due due = new Due("EdgesOfPart3Test");
    private static final long TIMES = 6364136223846793005L;
    private static final long MORE = 1442695040888963407L;

    public static void main(String[] args) {
        seenBehindNoneToEight();
        seenHeats();
        seenFromNow();
        deadFromNow();
        neverMoreThanSix();
        noneSeenAtFirst();
        dotsThatAreNotAnyMore();
        whichAsBits();
        shareOfAll();
        shareEdges();
        chanceByTenths();
        chanceOfNoneToAll();
        drawnTimes();
        seedWraps();
        dotsBelowAlone();
        drawnFromThenOn();
        nothingButTheSeed();
        slots();
        noActsWhenOneGoesOn();
        slotsKeepAll();
        due.end();
    }

    private static void seenBehindNoneToEight() {
        due.says("behind PRINTING n LINES (0 .. 8) HEAT of a DOT is v");
        for (int n = 0; n <= 8; n++) {
            // Only the last of eight lines has a dot.
            HeatLines x = Jobs.of(2).table("90000").lines(0, 0, 0, 0, 0, 0, 0, 1).told();
            x.see(0, n, 0);
            due.is("0 behind " + n, x.which(), n == 8 ? 1 : 3);
            x.unsee();
            x.see(0, n, 90);
            due.is("90 behind " + n, x.which(), n == 8 ? 2 : 0);
        }
        HeatLines few = Jobs.of(2).table("90000").lines(1).told();
        few.see(1, 8, 18);
        due.is("behind more than there are", few.which(), 2);
        HeatLines none = new HeatLines();
        none.see(0, 8, 0);
        due.is("behind an empty queue", none.which(), 1);
    }

    private static void seenHeats() {
        due.says("HEAT of a DOT is v (0 .. 999)");
        HeatLines x = Jobs.of(3).cool(4).told();
        for (int i = 0; i < 40; i++) {
            x.put(7);
            x.print(1);
        }
        x.see(1, 0, 999);
        due.is("999", x.which(), 7);
        x.see(1, 0, 998);
        due.is("998", x.which(), 0);
        HeatLines cold = Jobs.of(3).told();
        cold.see(2, 0, 0);
        due.is("0", cold.which(), 7);
        cold.see(2, 0, 1);
        due.is("1", cold.which(), 0);
    }

    private static void seenFromNow() {
        due.says("from how all is when that is asked (not when it was told)");
        HeatLines x = Jobs.of(2).table("90000").lines(0, 1).told();
        x.see(0, 1, 90);
        due.is("the first line is blank", x.which(), 0);
        x.print(1);
        due.is("the first line is black now", x.which(), 2);
        x.print(1);
        due.is("90 behind none", x.which(), 3);
        x.pause(1);
        due.is("cooled", x.which(), 0);
        x.undo();
        x.undo();
        due.is("undone", x.which(), 2);
        x.set(0, 8);
        due.is("by another table", x.which(), 0);
        x.undo();
        x.ribbon(0);
        due.is("without ribbon", x.which(), 0);
    }

    private static void deadFromNow() {
        due.says("one unknown DOT being DEAD from now on");
        HeatLines x = Jobs.of(2).table("99999").lines(1, 1).told();
        x.print(1);
        x.see(0, 1, 45);
        due.is("what was heated stays", x.which(), 1);
        x.unsee();
        x.see(0, 1, 135);
        due.is("dot 0 lives", x.which(), 2);
    }

    private static void neverMoreThanSix() {
        due.says("never more than 6");
        HeatLines x = Jobs.of(8).told();
        for (int i = 1; i <= 5; i++) {
            due.is("see", x.see(i, 0, 0), i);
        }
        due.is("which by five", x.which(), 255);
        due.is("a sixth", x.see(7, 0, 1), 6);
        due.is("which by the sixth", x.which(), 0);
        due.is("a seventh", x.see(0, 0, 0), HeatLines.FULL);
        due.is("seen", x.about(18), 6);
        due.is("unsee", x.unsee(), 6);
        due.is("a first", x.see(7, 0, 0), 1);
        due.is("the sixth is gone", x.which(), 255);
    }

    private static void noneSeenAtFirst() {
        due.says("SEEN: .. none at first");
        HeatLines x = new HeatLines();
        due.is("seen", x.about(18), 0);
        due.is("unsee", x.unsee(), 0);
        due.is("which", x.which(), 1);
    }

    private static void dotsThatAreNotAnyMore() {
        due.says("(of DOTS that there are not any more nothing is looked at)");
        HeatLines x = Jobs.of(8).told();
        x.see(7, 0, 5);
        x.see(6, 0, 0);
        due.is("dot 7 is not so", x.which(), 0);
        for (int n = 7; n >= 1; n--) {
            Due.writeText(x, Jobs.of(n).text());
            x.job();
            due.is("which of " + n, x.which(), (1 << n) - 1);
            due.is("it is still seen", x.about(18), 2);
        }
        x.see(0, 0, 9);
        due.is("dot 0 is looked at", x.which(), 0);
        due.is("all are counted", x.about(18), 3);
    }

    private static void whichAsBits() {
        due.says("WHICH: DOTS by which all that is SEEN is so, as bits");
        for (int n = 1; n <= 8; n++) {
            HeatLines x = Jobs.of(n).table("90000").lines(1 << n - 1).told();
            due.is("nothing is seen: all of " + n, x.which(), (1 << n) - 1);
            x.see(n - 1, 1, 0);
            due.is("the last of " + n, x.which(), 1 << n - 1);
            x.see(n - 1, 1, 90);
            due.is("none of " + n, x.which(), 0);
        }
    }

    private static void shareIs(HeatLines x, int dot, int above, int below) {
        due.is("share(" + dot + ", true)", x.share(dot, true), above);
        due.is("share(" + dot + ", false)", x.share(dot, false), below);
    }

    private static void shareOfAll() {
        due.says("SHARE of a DOT: if DOTS come one by one (others are DEAD), in each order as likely");
        // What all dots bring is what is right with all of them less what is right with none.
        int[][] lines = {{255}, {170, 85, 255}, {1, 128, 129, 0, 255, 60, 102, 255}};
        for (int[] row : lines) {
            HeatLines x = Jobs.of(8).low(10).high(120).table("97531").lines(row).told();
            long sum = 0;
            for (int d = 0; d < 8; d++) {
                due.is("below is a part of 8!", 40320 % x.share(d, false), 0);
                sum += 40320L / x.share(d, false) * x.share(d, true);
            }
            x.ribbon(99);
            x.print(8);
            // None is right cold, when the least is 10.
            due.is("all shares together", sum, 40320L * x.about(10));
        }
    }

    private static void shareEdges() {
        due.says("SHARE: by how many more are RIGHT .. in the mean when it has come: a FRACTION");
        shareIs(new HeatLines(), 0, 0, 1);
        shareIs(Jobs.of(8).told(), 7, 0, 1);
        shareIs(Jobs.of(1).low(1).lines(Jobs.same(1, 8)).told(), 0, 8, 1);
        shareIs(Jobs.of(1).high(0).lines(Jobs.same(1, 8)).told(), 0, -8, 1);
        shareIs(Jobs.of(8).low(90).table("99999").lines(129).told(), 0, 1, 1);
        shareIs(Jobs.of(8).low(90).table("99999").lines(129).told(), 3, 0, 1);
        // Two side by side are right only together: who comes last brings both, in half of the orders.
        shareIs(Jobs.of(2).low(100).table("99999").lines(3).told(), 0, 1, 1);
        shareIs(Jobs.of(2).low(100).table("99999").lines(3).told(), 1, 1, 1);
        shareIs(Jobs.of(2).low(10).high(90).table("99999").lines(3).told(), 1, 0, 1);
        due.is("no dot 8", Jobs.of(8).told().share(8, true), HeatLines.UNKNOWN);
        due.is("no dot -1", Jobs.of(8).told().share(-1, false), HeatLines.UNKNOWN);
    }

    private static void chanceIs(HeatLines x, int v, int tenths, int above, int below) {
        due.is("chance(" + v + ", " + tenths + ", true)", x.chance(v, tenths, true), above);
        due.is("chance(" + v + ", " + tenths + ", false)", x.chance(v, tenths, false), below);
    }

    private static void chanceByTenths() {
        due.says("CHANCE: each DOT is DEAD by x tenths (0 .. 10), by itself");
        HeatLines x = Jobs.of(1).low(90).lines(1).told();
        int[] above = {1, 9, 4, 7, 3, 1, 2, 3, 1, 1, 0};
        int[] below = {1, 10, 5, 10, 5, 2, 5, 10, 5, 10, 1};
        for (int tenths = 0; tenths <= 10; tenths++) {
            chanceIs(x, 1, tenths, above[tenths], below[tenths]);
            chanceIs(x, 0, tenths, 1, 1);
            chanceIs(x, 2, tenths, 0, 1);
        }
        HeatLines all = Jobs.of(8).low(90).lines(255).told();
        chanceIs(all, 8, 0, 1, 1);
        chanceIs(all, 8, 9, 1, 100000000);
        chanceIs(all, 8, 1, 43046721, 100000000);
        chanceIs(all, 1, 9, 56953279, 100000000);
        chanceIs(all, 1, 10, 0, 1);
        for (int tenths : new int[] {-1, 11, Integer.MIN_VALUE, Integer.MAX_VALUE}) {
            due.is("by " + tenths, all.chance(1, tenths, true), HeatLines.BAD);
        }
    }

    private static void chanceOfNoneToAll() {
        due.says("that v (0 .. 64) or more are RIGHT in THE QUEUE then: a FRACTION");
        HeatLines all = Jobs.of(8).lines(Jobs.same(255, 8)).told();
        chanceIs(all, 64, 5, 1, 1);
        chanceIs(all, 0, 5, 1, 1);
        HeatLines one = Jobs.of(8).lines(255, 255, 255, 255, 255, 255, 255, 254).told();
        chanceIs(one, 63, 5, 1, 1);
        chanceIs(one, 64, 5, 0, 1);
        // What was right ahead of that is not in the queue any more.
        one.ribbon(99);
        one.print(7);
        due.is("right ahead of it", one.about(10), 56);
        chanceIs(one, 7, 5, 1, 1);
        chanceIs(one, 8, 5, 0, 1);
        chanceIs(new HeatLines(), 0, 0, 1, 1);
        chanceIs(new HeatLines(), 1, 0, 0, 1);
        for (int v : new int[] {-1, 65, Integer.MIN_VALUE, Integer.MAX_VALUE}) {
            due.is("of " + v, all.chance(v, 0, false), HeatLines.BAD);
        }
    }

    private static void drawnTimes() {
        due.says("DRAWN by THE SEED: m times (1 .. 20)");
        for (int m = 1; m <= 20; m++) {
            HeatLines x = Jobs.of(8).told();
            x.seed(m);
            long seed = m;
            int black = 0;
            for (int i = 0; i < m; i++) {
                seed = seed * TIMES + MORE;
                black += Integer.bitCount((int) (seed >>> 33) & 255);
            }
            due.is("drawn(" + m + ")", x.drawn(m), black);
            due.is("the seed behind " + m, x.seed(0), seed);
        }
        for (int m : new int[] {0, 21, -1, Integer.MIN_VALUE, Integer.MAX_VALUE}) {
            HeatLines x = Jobs.of(8).told();
            x.seed(7);
            due.is("drawn(" + m + ")", x.drawn(m), HeatLines.BAD);
            due.is("the seed stays", x.seed(0), 7);
        }
    }

    private static void seedWraps() {
        due.says("x (THE SEED, a long; 0 at first) becomes x * 6364136223846793005L + 1442695040888963407L "
            + "(64 bits, wrapping)");
        due.is("the seed at first", new HeatLines().seed(0), 0);
        HeatLines first = new HeatLines();
        first.drawn(1);
        due.is("the seed behind the first", first.seed(0), MORE);
        for (long seed : new long[] {0, 1, -1, Long.MAX_VALUE, Long.MIN_VALUE, MORE, TIMES, 1L << 62}) {
            HeatLines x = Jobs.of(8).told();
            x.seed(seed);
            long next = BigInteger.valueOf(seed).multiply(BigInteger.valueOf(TIMES))
                .add(BigInteger.valueOf(MORE)).longValue();
            due.is("drawn by " + seed, x.drawn(1), Integer.bitCount((int) (next >>> 33) & 255));
            due.is("the seed behind " + seed, x.seed(seed), next);
        }
    }

    private static void dotsBelowAlone() {
        due.says("the LINE v & 255 (its DOTS below n alone) is PRINTED");
        for (int n = 1; n <= 8; n++) {
            HeatLines x = Jobs.of(n).told();
            long seed = 0;
            int black = 0;
            for (int i = 0; i < 20; i++) {
                seed = seed * TIMES + MORE;
                black += Integer.bitCount((int) (seed >>> 33) & (1 << n) - 1);
            }
            due.is("black dots of " + n, x.drawn(20), black);
        }
    }

    private static void drawnFromThenOn() {
        due.says("is PRINTED (RIBBON set aside, THE QUEUE as it is), all from then on: "
            + "how many are RIGHT in these together");
        HeatLines x = Jobs.of(8).low(60).high(110).table("97531").lines(255, 129, 85).told();
        x.print(2);
        x.seed(99);
        x.ribbon(0);
        // The same without the line that is still in the queue: what is drawn is put and printed one by one.
        HeatLines z = Jobs.of(8).low(60).high(110).table("97531").lines(255, 129).told();
        z.print(2);
        int was = z.about(10);
        long seed = 99;
        for (int i = 0; i < 20; i++) {
            seed = seed * TIMES + MORE;
            z.put((int) (seed >>> 33) & 255);
            z.print(1);
        }
        due.is("drawn(20)", x.drawn(20), z.about(10) - was);
        due.isTrue("some are right, some not", z.about(10) > was && z.about(11) + z.about(12) > 0);
        due.is("the queue stays", x.line(0, 0), 85);
        due.is("the ribbon stays", x.about(9), 0);
    }

    private static void nothingButTheSeed() {
        due.says("(Nothing changes but THE SEED.)");
        HeatLines x = Jobs.of(4).low(50).high(90).ghost(5).table("97531").lines(15, 9, 2).told();
        x.print(1);
        x.see(1, 1, 5);
        x.keep(0);
        String was = Due.allOf(x);
        x.drawn(20);
        due.unchanged("drawn(20)", was, x);
        x.drawn(1);
        due.unchanged("drawn(1)", was, x);
        due.is("undo", x.undo(), 0);
        due.is("drawn is no act", x.undo(), HeatLines.LATE);
    }

    private static void slots() {
        due.says("SLOTS 0 .. 1");
        HeatLines x = Jobs.of(1).lines(0, 0, 0).told();
        for (int slot : new int[] {-1, 2, Integer.MIN_VALUE, Integer.MAX_VALUE}) {
            due.is("keep(" + slot + ")", x.keep(slot), HeatLines.UNKNOWN);
            due.is("again(" + slot + ")", x.again(slot), HeatLines.UNKNOWN);
        }
        due.is("again(0) of none", x.again(0), HeatLines.LATE);
        due.is("again(1) of none", x.again(1), HeatLines.LATE);
        x.print(1);
        due.is("keep(0)", x.keep(0), 1);
        due.is("slot 1 is another", x.again(1), HeatLines.LATE);
        x.print(1);
        due.is("keep(1)", x.keep(1), 2);
        x.print(1);
        due.is("again(0)", x.again(0), 1);
        due.is("lines left", x.about(6), 2);
        due.is("again(1)", x.again(1), 2);
        due.is("lines left", x.about(6), 1);
    }

    private static void noActsWhenOneGoesOn() {
        due.says("(no ACTS when one goes on)");
        HeatLines x = Jobs.of(1).told();
        x.ribbon(5);
        x.keep(0);
        due.is("keeping leaves the acts", x.about(17), 1);
        x.ribbon(6);
        x.again(0);
        due.is("acts", x.about(17), 0);
        due.is("undo", x.undo(), HeatLines.LATE);
        due.is("ribbon", x.about(9), 5);
        x.ribbon(7);
        due.is("a first act", x.about(17), 1);
        due.is("undo of it", x.undo(), 0);
        due.is("ribbon back", x.about(9), 5);
    }

    private static void slotsKeepAll() {
        due.says("SLOTS keep HEAT, THE TABLE, THE QUEUE, LAST, BEFORE, RIBBON, all that is counted");
        HeatLines x = Jobs.of(8).low(85).high(89).ghost(10).table("97531").lines(255, 129, 85, 7, 8).told();
        x.print(3);
        x.keep(0);
        int[] was = new int[30];
        look(x, was);
        x.set(4, 0);
        x.ribbon(4);
        x.put(255);
        x.put(3);
        x.print(3);
        x.pause(2);
        x.keep(1);
        x.again(0);
        int[] now = new int[30];
        look(x, now);
        for (int i = 0; i < was.length; i++) {
            due.is("what was kept, " + i, now[i], was[i]);
        }
        due.is("the other slot", x.again(1), 6);
        due.is("its table", x.table(4), 0);
    }

    private static void look(HeatLines x, int[] into) {
        for (int i = 0; i < 8; i++) {
            into[i] = x.heat(i);
            into[8 + i] = x.line(i, 0);
        }
        for (int i = 0; i < 5; i++) {
            into[16 + i] = x.table(i);
        }
        for (int what = 6; what <= 14; what++) {
            into[21 + what - 6] = x.about(what);
        }
    }
}
