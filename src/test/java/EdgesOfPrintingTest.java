/** Part 1 of the document, sentence by sentence: how a line is printed, its time, and the acts. */
public final class EdgesOfPrintingTest {
    private static final Due due = new Due("EdgesOfPrintingTest");

    public static void main(String[] args) {
        cooledToWhatStays();
        pulsesByHowMany();
        pulsesAtTheEnds();
        heatOnEachSide();
        rightFromLowToHigh();
        lowAboveHigh();
        ghosts();
        allAreCounted();
        ribbonOneLess();
        beforeBecomesLast();
        strobes();
        most();
        printingEndsByTheQueue();
        printingEndsByTheRibbon();
        ribbonOfAJob();
        putComesBehind();
        pauseCoolsAlone();
        tableToldAnew();
        actsAreFourteen();
        firstActIsForgotten();
        lastActIsUndone();
        eachIsAnAct();
        noDotIsDead();
        due.end();
    }

    private static void cooledToWhatStays() {
        due.says("COOLED: each HEAT becomes HEAT less (HEAT >> COOL)");
        // Beside a black dot it is two times the pulse: 2, 4, 8, 16, which is one more than what stays for good.
        for (int cool = 1; cool <= 4; cool++) {
            int heat = 1 << cool;
            String table = String.valueOf(heat / 2).repeat(5);
            HeatLines x = Jobs.of(2).cool(cool).table(table).lines(1).told();
            x.print(1);
            due.is("heat beside", x.heat(1), heat);
            x.pause(1);
            due.is(heat + " cooled by " + cool, x.heat(1), heat - 1);
            x.pause(1);
            due.is(heat - 1 + " cooled by " + cool, x.heat(1), heat - 1);
            x.pause(99);
            due.is(heat - 1 + " cooled 99 times by " + cool, x.heat(1), heat - 1);
        }
        HeatLines cold = Jobs.of(8).told();
        due.is("0 cooled", cold.pause(99), 0);
    }

    private static void pulsesByHowMany() {
        due.says("PULSE of a DOT d of w is that figure of THE TABLE that is told by how many of these are so: "
            + "DOT d less 1 is in w, DOT d and 1 is in w, d is in LAST, d is in BEFORE (0 .. 4: t0 .. t4)");
        int[] table = {9, 7, 5, 3, 1};
        for (int so = 0; so < 16; so++) {
            int left = so & 1;
            int right = so >> 1 & 1;
            int last = so >> 2 & 1;
            int before = so >> 3 & 1;
            int w = 2 | left | right << 2;
            HeatLines x = Jobs.of(3).cool(1).table("97531").lines(2 * before, 2 * last, w).told();
            int own = table[Integer.bitCount(so)];
            due.is("time by " + so, x.line(2, 1), own + (left + right) * table[1]);
            x.print(2);
            int was = x.heat(1);
            x.print(1);
            due.is("heat by " + so, x.heat(1), was - (was >> 1) + 10 * own + (left + right) * 2 * table[1]);
        }
    }

    private static void pulsesAtTheEnds() {
        due.says("DOT d less 1 is in w, DOT d and 1 is in w (there is none beyond the ends, nor do they meet)");
        HeatLines x = Jobs.of(8).table("95000").lines(129).told();
        due.is("both ends, each alone", x.line(0, 1), 18);
        x.print(1);
        due.is("dot 0", x.heat(0), 90);
        due.is("dot 7", x.heat(7), 90);
        HeatLines all = Jobs.of(8).table("96300").lines(255).told();
        due.is("all eight: two ends of t1, six of t2", all.line(0, 1), 2 * 6 + 6 * 3);
        due.is("one dot alone", Jobs.of(1).table("90000").lines(1).told().line(0, 1), 9);
        due.is("two dots", Jobs.of(2).table("95000").lines(3).told().line(0, 1), 10);
    }

    private static void heatOnEachSide() {
        due.says("its HEAT is 10 times its PULSE more, that of the DOT on each side of it 2 times its PULSE more");
        for (int d = 0; d < 8; d++) {
            HeatLines x = Jobs.of(8).table("90000").lines(1 << d).told();
            x.print(1);
            for (int other = 0; other < 8; other++) {
                int apart = Math.abs(d - other);
                due.is("heat of " + other + " by " + d, x.heat(other), apart == 0 ? 90 : apart == 1 ? 18 : 0);
            }
        }
        HeatLines one = Jobs.of(1).lines(1).told();
        one.print(1);
        due.is("one dot without sides", one.heat(0), 90);
    }

    private static void marksAre(HeatLines x, int right, int pale, int dark) {
        due.is("right", x.about(10), right);
        due.is("pale", x.about(11), pale);
        due.is("dark", x.about(12), dark);
    }

    private static HeatLines printedOnce(Jobs job) {
        HeatLines x = job.told();
        x.print(1);
        return x;
    }

    private static void rightFromLowToHigh() {
        due.says("a DOT of w is RIGHT, if its HEAT is LOW or more and HIGH or less; PALE, if it is less than LOW; "
            + "else DARK");
        marksAre(printedOnce(Jobs.of(1).low(90).high(90).lines(1)), 1, 0, 0);
        marksAre(printedOnce(Jobs.of(1).low(90).high(999).lines(1)), 1, 0, 0);
        marksAre(printedOnce(Jobs.of(1).low(91).high(999).lines(1)), 0, 1, 0);
        marksAre(printedOnce(Jobs.of(1).low(0).high(90).lines(1)), 1, 0, 0);
        marksAre(printedOnce(Jobs.of(1).low(0).high(89).lines(1)), 0, 0, 1);
        marksAre(printedOnce(Jobs.of(1).low(0).high(0).table("00000").lines(1)), 1, 0, 0);
        marksAre(printedOnce(Jobs.of(1).low(1).high(1).table("00000").lines(1)), 0, 1, 0);
        HeatLines hot = Jobs.of(3).cool(4).low(999).high(999).told();
        for (int i = 0; i < 40; i++) {
            hot.put(7);
            hot.print(1);
        }
        due.is("the hottest", hot.heat(1), 999);
        int was = hot.about(10);
        hot.put(2);
        hot.print(1);
        due.is("999 is right by 999", hot.about(10), was + 1);
        due.is("nothing can be dark by 999", hot.about(12), 0);
    }

    private static void lowAboveHigh() {
        due.says("PALE, if it is less than LOW; else DARK (LOW above HIGH: none is RIGHT)");
        marksAre(printedOnce(Jobs.of(1).low(91).high(89).lines(1)), 0, 1, 0);
        marksAre(printedOnce(Jobs.of(1).low(91).high(90).lines(1)), 0, 1, 0);
        marksAre(printedOnce(Jobs.of(1).low(90).high(89).lines(1)), 0, 0, 1);
    }

    private static void ghosts() {
        due.says("A DOT that is not in w is a GHOST, if its HEAT is more than GHOST");
        due.is("18 by 17", printedOnce(Jobs.of(3).ghost(17).lines(2)).about(13), 2);
        due.is("18 by 18", printedOnce(Jobs.of(3).ghost(18).lines(2)).about(13), 0);
        due.is("0 by 0", printedOnce(Jobs.of(8).ghost(0).lines(0)).about(13), 0);
        due.is("black dots are none", printedOnce(Jobs.of(8).ghost(0).lines(255)).about(13), 0);
        HeatLines blank = Jobs.of(8).ghost(44).lines(255, 0).told();
        blank.print(2);
        due.is("ghosts of a blank line", blank.about(13), 8);
        HeatLines hot = Jobs.of(3).cool(4).ghost(999).told();
        for (int i = 0; i < 40; i++) {
            hot.put(7);
            hot.print(1);
        }
        hot.put(5);
        hot.print(1);
        due.is("the hottest, not black", hot.heat(1), 937 + 36);
        due.is("no ghost by 999", hot.about(13), 0);
    }

    private static void allAreCounted() {
        due.says("All these are counted (one PRINTED more)");
        HeatLines x = Jobs.of(8).low(85).high(89).ghost(10).table("97531").lines(255, 129, 85).told();
        for (int i = 1; i <= 3; i++) {
            int was = x.about(10) + x.about(11) + x.about(12);
            int black = Integer.bitCount(x.line(0, 0));
            x.print(1);
            due.is("each black dot is counted once", x.about(10) + x.about(11) + x.about(12) - was, black);
            due.is("printed", x.about(14), i);
        }
        x.put(0);
        x.print(1);
        due.is("a blank line is printed, too", x.about(14), 4);
    }

    private static void ribbonOneLess() {
        due.says("RIBBON is one less, if w has any DOT");
        HeatLines x = Jobs.of(8).lines(0, 1, 128, 255, 0).told();
        int[] want = {99, 98, 97, 96, 96};
        for (int ribbon : want) {
            x.print(1);
            due.is("ribbon", x.about(9), ribbon);
        }
    }

    private static void beforeBecomesLast() {
        due.says("BEFORE becomes LAST, LAST becomes w");
        HeatLines x = Jobs.of(2).lines(1, 0, 3).told();
        x.print(1);
        due.is("last of one", x.about(7), 1);
        due.is("before of one", x.about(8), 0);
        x.print(1);
        due.is("a blank line is last", x.about(7), 0);
        due.is("before of two", x.about(8), 1);
        due.is("told by before: t1 and t2", Jobs.of(2).table("95300").lines(1, 0, 3).told().line(2, 1), 8);
        x.print(1);
        due.is("a blank line is before", x.about(8), 0);
    }

    private static void strobes() {
        due.says("PULSES of its DOTS, the greatest first, are taken in STROBES of POWER each "
            + "(the last one may have fewer): the greatest PULSE of each STROBE, together");
        // Dots 0 and 7 alone have 9, dots 2 to 5 have 7 5 5 7.
        int w = 128 | 60 | 1;
        int[] times = {9 + 9 + 7 + 7 + 5 + 5, 9 + 7 + 5, 9 + 7, 9 + 5, 9 + 5, 9, 9, 9};
        for (int p = 1; p <= 8; p++) {
            due.is("six dots by " + p, Jobs.of(8).power(p).table("97531").lines(w).told().line(0, 1), times[p - 1]);
        }
        for (int p = 1; p <= 8; p++) {
            due.is("no dot by " + p, Jobs.of(8).power(p).lines(0).told().line(0, 1), 0);
            due.is("one dot by " + p, Jobs.of(8).power(p).lines(16).told().line(0, 1), 9);
        }
    }

    private static void mostIs(Jobs job, int i, int time, int most) {
        HeatLines x = job.told();
        due.is("time", x.line(i, 1), time);
        due.is("most by " + time, x.line(i, 2), most);
    }

    private static void most() {
        due.says("MOST of it: 9 less (TIME by 9, cut), 1 at least");
        mostIs(Jobs.of(8).lines(0), 0, 0, 9);
        mostIs(Jobs.of(8).table("80000").lines(1), 0, 8, 9);
        mostIs(Jobs.of(8).table("90000").lines(1), 0, 9, 8);
        mostIs(Jobs.of(8).table("98000").lines(1, 5), 1, 17, 8);
        mostIs(Jobs.of(8).table("90000").lines(5), 0, 18, 7);
        mostIs(Jobs.of(8).table("99994").lines(6, 6, 255), 2, 62, 3);
        mostIs(Jobs.of(8).table("99990").lines(2, 2, 255), 2, 63, 2);
        mostIs(Jobs.of(8).table("99998").lines(2, 2, 255), 2, 71, 2);
        mostIs(Jobs.of(8).lines(255), 0, 72, 1);
    }

    private static void printingEndsByTheQueue() {
        due.says("PRINTING n LINES: the first of THE QUEUE is PRINTED and goes from it, n times; "
            + "it ends ahead of that, if THE QUEUE is empty");
        for (int n = 1; n <= 9; n++) {
            HeatLines x = Jobs.of(8).lines(1, 2, 4, 8, 16, 32, 64, 128).told();
            int done = Math.min(8, n);
            due.is("print(" + n + ") of 8", x.print(n), done);
            due.is("lines left", x.about(6), 8 - done);
            due.is("printed", x.about(14), done);
            due.is("the next one", x.line(0, 0), done < 8 ? 1 << done : HeatLines.NONE);
            due.is("the last one", x.about(7), 1 << done - 1);
        }
        HeatLines empty = new HeatLines();
        due.is("of an empty queue", empty.print(1), 0);
        due.is("nothing was printed", empty.about(14), 0);
    }

    private static void printingEndsByTheRibbon() {
        due.says("it ends ahead of that, .. if RIBBON is 0 and the LINE has any DOT");
        HeatLines x = Jobs.of(8).lines(0, 0, 128, 0, 1, 0).told();
        x.ribbon(0);
        due.is("blank lines without ribbon", x.print(9), 2);
        due.is("a black one stays", x.line(0, 0), 128);
        due.is("none", x.print(9), 0);
        x.ribbon(1);
        due.is("one black, one blank", x.print(9), 2);
        due.is("the ribbon is at its end", x.about(9), 0);
        due.is("the next black one stays", x.line(0, 0), 1);
        x.ribbon(1);
        due.is("the rest", x.print(9), 2);
        due.is("ribbon", x.about(9), 0);
        due.is("printed", x.about(14), 6);
    }

    private static void ribbonOfAJob() {
        due.says("When THE JOB is told, .. RIBBON is 99");
        HeatLines x = Jobs.of(1).told();
        for (int i = 1; i <= 99; i++) {
            x.put(1);
            due.is("line " + i, x.print(1), 1);
        }
        x.put(1);
        due.is("a hundredth", x.print(1), 0);
        due.is("printed", x.about(14), 99);
    }

    private static void putComesBehind() {
        due.says("PUT: a LINE comes behind THE QUEUE");
        HeatLines x = Jobs.of(2).told();
        for (int i = 0; i < 8; i++) {
            x.put(i % 4);
            due.is("the last one", x.line(i, 0), i % 4);
            due.is("the first one", x.line(0, 0), 0);
        }
    }

    private static void pauseCoolsAlone() {
        due.says("PAUSE k: k times (1 .. 99) all is COOLED (nothing else)");
        HeatLines x = Jobs.of(8).cool(4).low(85).high(89).ghost(10).table("97531").lines(255, 129, 85, 3, 4).told();
        x.print(3);
        int[] heat = new int[8];
        int[] was = new int[20];
        for (int d = 0; d < 8; d++) {
            heat[d] = x.heat(d);
        }
        for (int what = 0; what < 20; what++) {
            was[what] = x.about(what);
        }
        int[] pauses = {1, 2, 10, 98, 99};
        for (int k : pauses) {
            int sum = 0;
            for (int d = 0; d < 8; d++) {
                sum += cooled(heat[d], k);
            }
            due.is("pause(" + k + ")", x.pause(k), sum);
            for (int d = 0; d < 8; d++) {
                due.is("heat " + d + " behind " + k, x.heat(d), cooled(heat[d], k));
            }
            for (int what = 0; what < 16; what++) {
                due.is("about(" + what + ") behind " + k, x.about(what), was[what]);
            }
            x.undo();
        }
    }

    private static int cooled(int heat, int times) {
        int left = heat;
        for (int i = 0; i < times; i++) {
            left -= left >> 4;
        }
        return left;
    }

    private static void tableToldAnew() {
        due.says("TABLE told: one of its figures is told anew (so that each is no more than the one ahead of it)");
        int[] figures = {8, 6, 5, 5, 2};
        for (int i = 0; i < 5; i++) {
            int most = i == 0 ? 9 : figures[i - 1];
            int least = i == 4 ? 0 : figures[i + 1];
            for (int v = -1; v <= 10; v++) {
                HeatLines x = Jobs.of(1).table("86552").told();
                boolean may = v >= least && v <= most;
                due.is("set(" + i + ", " + v + ")", x.set(i, v), may ? figures[i] : HeatLines.BAD);
                for (int k = 0; k < 5; k++) {
                    due.is("table(" + k + ")", x.table(k), may && k == i ? v : figures[k]);
                }
            }
        }
    }

    private static void actsAreFourteen() {
        due.says("ACTS .. are a row (never more than 14)");
        HeatLines x = new HeatLines();
        due.is("acts at first", x.about(17), 0);
        for (int i = 1; i <= 30; i++) {
            x.pause(1);
            due.is("acts behind " + i, x.about(17), Math.min(14, i));
        }
    }

    private static void firstActIsForgotten() {
        due.says("if it has 14, the first one is forgotten ahead of the next");
        for (int more = -1; more <= 29; more++) {
            HeatLines x = Jobs.of(1).told();
            int all = 14 + more;
            for (int i = 1; i <= all; i++) {
                x.ribbon(100 + i);
            }
            int held = Math.min(14, all);
            for (int left = held - 1; left >= 0; left--) {
                due.is("undo of " + all, x.undo(), left);
            }
            due.is("undo of none", x.undo(), HeatLines.LATE);
            due.is("how far back it goes", x.about(9), all > 14 ? 100 + all - 14 : 99);
        }
    }

    private static void lastActIsUndone() {
        due.says("the last one can be undone");
        HeatLines x = Jobs.of(2).lines(3).told();
        due.is("none to undo", x.undo(), HeatLines.LATE);
        x.put(1);
        x.put(2);
        due.is("undo", x.undo(), 1);
        due.is("only the last one", x.about(6), 2);
        x.put(3);
        due.is("another in its place", x.undo(), 1);
        due.is("undo", x.undo(), 0);
        due.is("the job's own line stays", x.line(0, 0), 3);
        due.is("none to undo any more", x.undo(), HeatLines.LATE);
        // Undone and done again at the end of the row: nothing further back comes to light.
        HeatLines y = Jobs.of(1).told();
        for (int i = 1; i <= 20; i++) {
            y.ribbon(i);
        }
        y.undo();
        y.undo();
        y.ribbon(50);
        due.is("acts", y.about(17), 13);
        for (int left = 12; left >= 0; left--) {
            due.is("undo", y.undo(), left);
        }
        due.is("back to the sixth", y.about(9), 6);
        due.is("no further", y.undo(), HeatLines.LATE);
    }

    private static void eachIsAnAct() {
        due.says("Each that is not refused is an ACT");
        HeatLines x = new HeatLines();
        x.put(0);
        due.is("put", x.about(17), 1);
        x.print(1);
        due.is("print", x.about(17), 2);
        x.print(1);
        due.is("print of none", x.about(17), 3);
        x.pause(1);
        due.is("pause of what is cold", x.about(17), 4);
        x.set(0, 0);
        due.is("set as it is", x.about(17), 5);
        x.ribbon(0);
        due.is("ribbon as it is", x.about(17), 6);
        x.put(1);
        x.print(1);
        due.is("print without ribbon", x.about(17), 8);
        x.keep(0);
        x.see(0, 0, 0);
        x.seed(1);
        x.drawn(1);
        x.write('H');
        x.wipe();
        x.unsee();
        due.is("nothing else is one", x.about(17), 8);
        for (int left = 7; left >= 0; left--) {
            due.is("undo", x.undo(), left);
        }
        due.is("undo of none", x.undo(), HeatLines.LATE);
    }

    private static void noDotIsDead() {
        due.says("No DOT is DEAD but where that is asked");
        HeatLines x = Jobs.of(3).table("90000").lines(2, 2).told();
        x.see(1, 1, 0);
        due.is("dot 1 alone can be dead", x.which(), 2);
        x.share(1, true);
        x.chance(1, 10, true);
        due.is("ahead", x.ahead(1, 1), 90);
        x.print(1);
        due.is("heat", x.heat(1), 90);
        due.is("judged: 90 is right", x.judge(1, 4001), HeatLines.NONE);
    }
}
