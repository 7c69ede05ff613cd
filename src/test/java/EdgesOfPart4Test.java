/** Part 4 of the document ("more plainly"), sentence by sentence. */
public final class EdgesOfPart4Test {
    private static final Due due = new Due("EdgesOfPart4Test");
    private static final int NONE = HeatLines.NONE;

    public static void main(String[] args) {
        deadDotsHavePulses();
        deadDotsHeatNothing();
        deadDotsAreCounted();
        blankLines();
        ribbonSetAside();
        ribbonIsAsItWas();
        ribbonCountsElsewhere();
        fitBetweenNeighbours();
        heatBeyondTheEnds();
        speedsUpAndDown();
        timesByTheLinesAhead();
        pulseOfZeroInAStrobe();
        restCoolsTheLineToo();
        restOfThatLineAlone();
        deadDotHeatedByOthers();
        printingOfNone();
        notUndone();
        notKept();
        lateJob();
        due.end();
    }

    private static void deadDotsHavePulses() {
        due.says("PULSES look at what DOTS are to be black, be they DEAD or not");
        // Beside a dead dot the pulse is t1 all the same: 50, not 90.
        HeatLines x = Jobs.of(2).table("95000").lines(3).told();
        x.see(0, 1, 50);
        due.is("50", x.which(), 2);
        x.unsee();
        x.see(0, 1, 90);
        due.is("90", x.which(), 0);
        // Dead in the line ahead, too: the dot was to be black there, so it has t1 in the next one.
        HeatLines y = Jobs.of(3).table("95000").lines(1, 3).told();
        y.see(1, 2, 50);
        due.is("beside a dead one", y.which(), 1);
    }

    private static void deadDotsHeatNothing() {
        due.says("a DEAD one heats nothing");
        HeatLines x = Jobs.of(3).table("90000").lines(2).told();
        for (int d = 0; d < 3; d++) {
            x.unsee();
            x.see(d, 1, 0);
            due.is("0 at " + d, x.which(), 2);
        }
        HeatLines all = Jobs.of(3).table("99999").lines(7, 7, 7).told();
        all.see(0, 3, 18 + 9 + 5);
        due.is("dot 0 by dot 1 alone: 18, 27, 32", all.which(), 1);
    }

    private static void deadDotsAreCounted() {
        due.says("a DEAD one .. is counted as others are");
        HeatLines cold = Jobs.of(1).low(0).high(0).lines(1).told();
        due.is("a dead dot of 0 is right by 0", cold.chance(1, 10, true), 1);
        due.is("a live one is dark", cold.chance(1, 0, true), 0);
        HeatLines pale = Jobs.of(1).low(1).lines(1).told();
        due.is("a dead dot of 0 is pale by 1", pale.chance(1, 10, true), 0);
    }

    private static void blankLines() {
        due.says("A blank LINE (no DOTS) is PRINTED, costs no RIBBON, has TIME 0");
        HeatLines x = Jobs.of(8).lines(255, 0).told();
        due.is("time", x.line(1, 1), 0);
        due.is("most", x.line(1, 2), 9);
        x.print(1);
        x.ribbon(0);
        due.is("print", x.print(1), 1);
        due.is("printed", x.about(14), 2);
        due.is("ribbon", x.about(9), 0);
        due.is("last", x.about(7), 0);
        due.is("before", x.about(8), 255);
        due.is("cooled", x.heat(0), 54);
    }

    private static Jobs severalLines() {
        return Jobs.of(4).low(60).high(110).ghost(30).table("97531").lines(15, 9, 0, 6, 1);
    }

    private static void ribbonSetAside() {
        due.says("\"RIBBON set aside\": as if there were enough");
        HeatLines enough = severalLines().told();
        for (int ribbon : new int[] {0, 1, 3, 4, 999}) {
            HeatLines x = severalLines().told();
            x.ribbon(ribbon);
            for (int i = 0; i < 5; i++) {
                due.is("fit(" + i + ")", x.fit(i), enough.fit(i));
                due.is("line(" + i + ", 1)", x.line(i, 1), enough.line(i, 1));
                due.is("line(" + i + ", 3)", x.line(i, 3), enough.line(i, 3));
            }
            for (int d = 0; d < 4; d++) {
                due.is("share above", x.share(d, true), enough.share(d, true));
                due.is("share below", x.share(d, false), enough.share(d, false));
            }
            for (int v = 0; v <= 9; v++) {
                due.is("chance(" + v + ")", x.chance(v, 3, true), enough.chance(v, 3, true));
            }
            due.is("ticks", x.about(15), enough.about(15));
            due.is("rest", x.about(16), enough.about(16));
            x.seed(5);
            enough.seed(5);
            due.is("drawn", x.drawn(20), enough.drawn(20));
            due.is("the ribbon", x.about(9), ribbon);
        }
        due.isTrue("there is something to share", enough.share(0, true) != 0 && enough.chance(3, 3, true) != 0);
    }

    private static void ribbonIsAsItWas() {
        due.says("(it is as it was else)");
        HeatLines x = severalLines().told();
        x.ribbon(2);
        x.fit(0);
        x.share(1, true);
        x.chance(1, 1, true);
        x.drawn(20);
        x.about(15);
        x.about(16);
        due.is("ribbon", x.about(9), 2);
        due.is("printing goes by it", x.print(9), 3);
    }

    private static void ribbonCountsElsewhere() {
        due.says("AHEAD, SEEN, JUDGED: PRINTING n LINES .. ends .. if RIBBON is 0 and the LINE has any DOT");
        HeatLines x = Jobs.of(1).lines(0, 1).told();
        x.ribbon(0);
        due.is("ahead", x.ahead(2, 0), 0);
        due.is("judged", x.judge(1, 2002), 0);
        due.is("judged as far as it goes", x.judge(1, 2001), NONE);
        HeatLines y = Jobs.of(2).table("90000").lines(1).told();
        y.ribbon(0);
        y.see(0, 1, 90);
        due.is("which", y.which(), 0);
        y.ribbon(1);
        due.is("which by a ribbon of 1", y.which(), 2);
    }

    /** FIT by trying all that set takes, on another object. */
    private static int fitByTrying(String table, int low, int high, int i) {
        int best = -1;
        int most = -1;
        for (int v = 9; v >= 0; v--) {
            HeatLines x = Jobs.of(3).low(low).high(high).table(table).lines(7, 7, 7, 2, 5).told();
            if (x.set(i, v) >= 0) {
                x.print(9);
                if (x.about(10) >= most) {
                    most = x.about(10);
                    best = v;
                }
            }
        }
        return best;
    }

    private static void fitBetweenNeighbours() {
        due.says("FIT of t0 may be t1 .. 9, of t4 0 .. t3, of others between their neighbours");
        int[] leasts = {7, 5, 3, 1, 0};
        int[] mosts = {9, 9, 7, 5, 3};
        // By these heats a dot is right by the most that may be alone, by one more by none at all.
        int[] heats = {90, 108, 98, 123, 116};
        int[][] lines = {{2}, {3}, {7}, {2, 7}, {2, 2, 7}};
        for (int i = 0; i < 5; i++) {
            String table = i == 0 ? "87531" : "97531";
            HeatLines most = Jobs.of(3).low(heats[i]).table(table).lines(lines[i]).told();
            due.is("the most of t" + i, most.fit(i), mosts[i]);
            HeatLines least = Jobs.of(3).low(heats[i] + 1).table(table).lines(lines[i]).told();
            due.is("the least of t" + i, least.fit(i), leasts[i]);
        }
        String[] tables = {"97531", "99999", "55555", "90000", "86420"};
        for (String table : tables) {
            for (int low = 0; low < 180; low += 12) {
                for (int i = 0; i < 5; i++) {
                    HeatLines x = Jobs.of(3).low(low).high(low + 20).table(table).lines(7, 7, 7, 2, 5).told();
                    due.is("fit(" + i + ") of " + table, x.fit(i), fitByTrying(table, low, low + 20, i));
                }
            }
        }
    }

    private static void heatBeyondTheEnds() {
        due.says("HEAT of what is beyond the ends is lost");
        for (int n = 1; n <= 8; n++) {
            HeatLines x = Jobs.of(n).table("90000").lines(1).told();
            x.print(1);
            int sum = 0;
            for (int d = 0; d < n; d++) {
                sum += x.heat(d);
            }
            due.is("all heat by dot 0 of " + n, sum, n == 1 ? 90 : 108);
            HeatLines y = Jobs.of(n).table("90000").lines(1 << n - 1).told();
            y.print(1);
            due.is("heat of dot 0 by the last of " + n, y.heat(0), n == 1 ? 90 : n == 2 ? 18 : 0);
        }
    }

    private static void speedsUpAndDown() {
        due.says("SPEED of k LINES: 1, 2, 3, .. up to what may be, and down to 1 again");
        for (int k = 1; k <= 8; k++) {
            HeatLines x = Jobs.of(1).lines(Jobs.same(0, k)).told();
            for (int i = 0; i < k; i++) {
                due.is("speed " + i + " of " + k, x.line(i, 3), Math.min(i + 1, k - i));
            }
        }
        // Five dots of 9 one by one: 4 may be; six: 3.
        HeatLines x = Jobs.of(8).lines(Jobs.same(63, 8)).told();
        int[] want = {1, 2, 3, 3, 3, 3, 2, 1};
        for (int i = 0; i < 8; i++) {
            due.is("speed " + i + " up to 3", x.line(i, 3), want[i]);
        }
    }

    private static void timesByTheLinesAhead() {
        due.says("TIME, MOST, SPEED of the i-th LINE of THE QUEUE go by the LINES ahead of it there "
            + "as its LAST and BEFORE");
        HeatLines x = Jobs.of(1).table("97510").lines(1, 1, 1, 0, 1, 0, 0, 1).told();
        int[] want = {9, 7, 5, 0, 7, 0, 0, 9};
        for (int i = 0; i < 8; i++) {
            due.is("time " + i, x.line(i, 1), want[i]);
        }
        // What was printed is last and before of the first and the second in the queue.
        x.print(2);
        due.is("the third is the first now", x.line(0, 1), 5);
        x.print(1);
        x.print(1);
        due.is("by before alone", x.line(0, 1), 7);
        HeatLines y = Jobs.of(1).table("97510").lines(1).told();
        y.print(1);
        y.put(0);
        y.put(1);
        y.put(1);
        due.is("before of the second is what was printed", y.line(1, 1), 7);
        due.is("not of the third", y.line(2, 1), 7);
    }

    private static void pulseOfZeroInAStrobe() {
        due.says("A PULSE of 0 takes a place in a STROBE, too");
        for (int p = 1; p <= 8; p++) {
            HeatLines x = Jobs.of(8).power(p).table("90000").lines(7 | 128).told();
            due.is("9 0 0 0 by " + p, x.line(0, 1), 9);
        }
        due.is("zeros alone", Jobs.of(8).table("00000").lines(255).told().line(0, 1), 0);
    }

    private static void restCoolsTheLineToo() {
        due.says("REST: k PAUSES, then what the LINE itself is COOLED");
        HeatLines x = Jobs.of(1).ghost(45).lines(1, 0).told();
        x.print(1);
        due.is("90 cools to 45 by the line itself", x.about(16), 0);
        HeatLines y = Jobs.of(1).ghost(44).lines(1, 0).told();
        y.print(1);
        due.is("one pause, then the line itself: 23", y.about(16), 1);
    }

    private static void restOfThatLineAlone() {
        due.says("DARK and GHOSTS of that LINE alone, RIBBON set aside");
        HeatLines x = Jobs.of(2).ghost(10).lines(1, 0).told();
        x.print(1);
        due.is("a ghost is counted", x.about(13), 1);
        due.is("a blank line behind a ghost; 90 45 23 12 6", x.about(16), 3);
        HeatLines y = Jobs.of(2).high(50).ghost(10).lines(3, 0, 3).told();
        y.print(1);
        due.is("dark are counted", y.about(12), 2);
        due.is("a blank line behind dark ones; 108 54 27 14 7", y.about(16), 3);
        y.ribbon(0);
        due.is("without ribbon", y.about(16), 3);
        HeatLines z = Jobs.of(1).high(90).lines(1, 1).told();
        due.is("the second one would be dark", z.about(16), 0);
        z.ribbon(0);
        due.is("a black one without ribbon", z.about(16), 0);
    }

    private static void deadDotHeatedByOthers() {
        due.says("SHARE, CHANCE: a DEAD DOT is RIGHT, if its HEAT is so by others");
        // Two side by side, 18 by the other one alone: right is just the dead one beside a live one.
        HeatLines x = Jobs.of(2).low(18).high(18).lines(3).told();
        due.is("chance above", x.chance(1, 5, true), 1);
        due.is("chance below", x.chance(1, 5, false), 2);
        due.is("share of the first that comes is 1, of the second -1", x.share(0, true), 0);
        due.is("share below", x.share(0, false), 1);
        due.is("17 is pale", Jobs.of(2).low(19).high(19).lines(3).told().chance(1, 5, true), 0);
    }

    private static void printingOfNone() {
        due.says("PRINTING of none is an ACT, too");
        HeatLines x = new HeatLines();
        due.is("of an empty queue", x.print(9), 0);
        due.is("acts", x.about(17), 1);
        x.put(1);
        due.is("without ribbon", x.print(9), 0);
        due.is("acts", x.about(17), 3);
        due.is("undo", x.undo(), 2);
        due.is("the line is there", x.about(6), 1);
    }

    private static void notUndone() {
        due.says("THE TEXT, SEEN, THE SEED, COOL, POWER, LOW, HIGH, GHOST are not undone");
        HeatLines x = Jobs.of(2).cool(3).power(4).low(5).high(6).ghost(7).told();
        x.put(1);
        x.write('l');
        x.see(1, 2, 3);
        x.seed(8);
        x.put(2);
        x.undo();
        x.undo();
        restStays(x, 19, 1, 8);
    }

    private static void restStays(HeatLines x, int letters, int seen, long seed) {
        int[] want = {2, 3, 4, 5, 6, 7};
        for (int what = 0; what < 6; what++) {
            due.is("about(" + what + ")", x.about(what), want[what]);
        }
        due.is("letters", x.about(19), letters);
        due.is("fault", x.fault(), letters);
        due.is("seen", x.about(18), seen);
        due.is("seed", x.seed(0), seed);
    }

    private static void notKept() {
        due.says("THE TEXT, SEEN, THE SEED, COOL, POWER, LOW, HIGH, GHOST are not .. kept");
        HeatLines x = Jobs.of(2).cool(3).power(4).low(5).high(6).ghost(7).told();
        x.keep(0);
        x.write('l');
        x.see(1, 2, 3);
        x.see(0, 2, 3);
        x.seed(9);
        due.is("again", x.again(0), 0);
        restStays(x, 19, 2, 9);
    }

    private static void lateJob() {
        due.says("a job() that is LATE changes nothing");
        for (String text : new String[] {"", "H", "h", "H2110009990999999", "H21100099909999999l", "H911"}) {
            HeatLines x = Jobs.of(4).low(50).high(90).ghost(5).table("97531").lines(15, 9, 2).told();
            x.print(1);
            x.keep(1);
            x.put(3);
            x.see(1, 1, 5);
            x.seed(6);
            Due.writeText(x, text);
            String was = Due.allOf(x);
            due.is("job of " + text, x.job(), HeatLines.LATE);
            due.unchanged("a late job", was, x);
            due.is("undo", x.undo(), 1);
            due.is("the seed", x.seed(0), 6);
            due.is("what was kept", x.again(1), 1);
        }
    }
}
