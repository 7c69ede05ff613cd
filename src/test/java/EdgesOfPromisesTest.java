/** Promises 1 to 27, sentence by sentence: the last number that is allowed and the first that is not, on both sides. */
public final class EdgesOfPromisesTest {
    private static final Due due = new Due("EdgesOfPromisesTest");
    private static final int UNKNOWN = HeatLines.UNKNOWN;
    private static final int BAD = HeatLines.BAD;
    private static final int LATE = HeatLines.LATE;
    private static final int FULL = HeatLines.FULL;
    private static final int NONE = HeatLines.NONE;

    private interface Asked {
        long by(int number);
    }

    public static void main(String[] args) {
        aNewObject();
        writes();
        wipes();
        faults();
        jobs();
        abouts();
        heats();
        tables();
        lines();
        puts();
        prints();
        pauses();
        sets();
        ribbons();
        undos();
        aheads();
        fits();
        judges();
        sees();
        unsees();
        whiches();
        shares();
        chances();
        seeds();
        draws();
        keeps();
        agains();
        due.end();
    }

    /** Asks all numbers of a range and some beyond both its ends; each is asked of an object of its own. */
    private static void range(String call, Asked asked, int first, int last, int refusal) {
        for (int k = first - 3; k <= last + 3; k++) {
            boolean in = k >= first && k <= last;
            long answer = asked.by(k);
            boolean refused = answer == UNKNOWN || answer == BAD || answer == LATE || answer == FULL;
            due.isTrue(call + " by " + k + (in ? " is refused" : " is not refused"), refused != in);
            if (!in) {
                due.is(call + " by " + k, answer, refusal);
            }
        }
        for (int k : new int[] {Integer.MIN_VALUE, -65536, -256, last + 256, last + 65536, Integer.MAX_VALUE}) {
            due.is(call + " by " + k, asked.by(k), refusal);
        }
    }

    /** Four dots with lines of all kinds and some heat. */
    private static HeatLines some() {
        HeatLines x = Jobs.of(4).low(20).high(100).ghost(15).table("97531").lines(15, 9, 6, 0, 1).told();
        x.print(2);
        return x;
    }

    private static void aNewObject() {
        due.says("HeatLines(): One dot, cold");
        HeatLines x = new HeatLines();
        due.is("dots", x.about(0), 1);
        due.is("heat", x.heat(0), 0);
        due.is("pause", x.pause(1), 0);
        HeatLines y = new HeatLines();
        x.write('H');
        x.seed(5);
        x.see(0, 0, 0);
        x.keep(0);
        due.is("another object has letters of its own", y.about(19), 0);
        due.is("a seed of its own", y.seed(0), 0);
        due.is("sights of its own", y.about(18), 0);
        due.is("acts of its own", y.about(17), 0);
        due.is("slots of its own", y.again(0), LATE);
    }

    private static void writes() {
        due.says("write: A letter (0 .. 255) comes behind THE TEXT: how long it is. BAD; FULL: there are 99");
        range("write", k -> new HeatLines().write(k), 0, 255, BAD);
        HeatLines x = new HeatLines();
        for (int i = 1; i <= 99; i++) {
            due.is("length", x.write(i % 256), i);
            due.is("letters", x.about(19), i);
        }
        due.is("a hundredth", x.write('H'), FULL);
        due.is("a bad hundredth", x.write(-1), BAD);
        due.is("letters", x.about(19), 99);
    }

    private static void wipes() {
        due.says("wipe: THE TEXT is empty: how long it was");
        HeatLines x = new HeatLines();
        due.is("of none", x.wipe(), 0);
        for (int length : new int[] {1, 98, 99}) {
            for (int i = 0; i < length; i++) {
                x.write('H');
            }
            due.is("of " + length, x.wipe(), length);
            due.is("letters", x.about(19), 0);
            due.is("fault", x.fault(), 0);
        }
        // What stood behind the end of the new text is gone, even where it could be read as one dot more.
        for (int n = 1; n <= 8; n++) {
            HeatLines y = new HeatLines();
            for (int i = 0; i < 99; i++) {
                y.write('o');
            }
            due.is("of 99", y.wipe(), 99);
            Due.writeText(y, Jobs.of(n).lines(0, 1).text());
            due.is("fault of " + n, y.fault(), NONE);
            due.is("job of " + n, y.job(), 2);
            due.is("its first line", y.line(0, 0), 0);
            due.is("its last line", y.line(1, 0), 1);
        }
    }

    private static void faults() {
        due.says("fault: FAULT; NONE");
        HeatLines x = new HeatLines();
        due.is("of the empty text", x.fault(), 0);
        String job = Jobs.of(1).lines(1).text();
        for (int i = 0; i < job.length(); i++) {
            x.write(job.charAt(i));
            due.is("of " + (i + 1), x.fault(), i + 1 == 18 || i + 1 == 20 ? NONE : i + 1);
        }
        x.write(0);
        due.is("of a letter 0", x.fault(), 20);
        x.write('l');
        due.is("and it stays", x.fault(), 20);
    }

    private static void jobs() {
        due.says("job: THE TEXT is THE JOB (no ACTS; what was kept is gone; THE TEXT, SEEN, THE SEED stay): "
            + "how many LINES are in THE QUEUE. LATE: a FAULT");
        due.is("of the empty text", new HeatLines().job(), LATE);
        for (int k = 0; k <= 8; k++) {
            HeatLines x = some();
            x.see(0, 0, 0);
            x.seed(3);
            x.keep(0);
            x.keep(1);
            Due.writeText(x, Jobs.of(2).lines(Jobs.same(3, k)).text());
            due.is("of " + k + " lines", x.job(), k);
            due.is("acts", x.about(17), 0);
            due.is("undo", x.undo(), LATE);
            due.is("slot 0", x.again(0), LATE);
            due.is("slot 1", x.again(1), LATE);
            due.is("letters", x.about(19), 18 + 3 * k);
            due.is("seen", x.about(18), 1);
            due.is("seed", x.seed(0), 3);
        }
        HeatLines late = some();
        late.write('l');
        due.is("with a fault", late.job(), LATE);
        late.write('o');
        due.is("still with a fault", late.job(), LATE);
        due.is("undo", late.undo(), 0);
    }

    private static void abouts() {
        due.says("about: DOTS (what = 0), COOL (1), .. letters of THE TEXT (19). BAD");
        range("about", k -> k >= 0 && k < 20 ? 0 : some().about(k), 0, 19, BAD);
        HeatLines x = Jobs.of(7).cool(3).power(5).low(55).high(66).ghost(17).table("97531").lines(7, 5, 0).told();
        x.print(2);
        x.see(1, 1, 1);
        x.see(1, 1, 1);
        x.see(1, 1, 1);
        // Dots 0 and 2 are at 140: by an eighth each time that is 16 behind 18 coolings, one of them the line's own.
        int[] want = {7, 3, 5, 55, 66, 17, 1, 5, 7, 97, 0, 0, 5, 2, 2, 60, 17, 1, 3, 42};
        for (int what = 0; what < 20; what++) {
            due.is("about(" + what + ")", x.about(what), want[what]);
        }
    }

    private static void heats() {
        due.says("heat: HEAT of a DOT. UNKNOWN");
        range("heat", k -> some().heat(k), 0, 3, UNKNOWN);
        range("heat of one", k -> new HeatLines().heat(k), 0, 0, UNKNOWN);
        range("heat of eight", k -> Jobs.of(8).told().heat(k), 0, 7, UNKNOWN);
    }

    private static void tables() {
        due.says("table: A figure of THE TABLE. BAD: i (0 .. 4)");
        range("table", k -> some().table(k), 0, 4, BAD);
        int[] want = {9, 7, 5, 3, 1};
        for (int i = 0; i < 5; i++) {
            due.is("table(" + i + ")", some().table(i), want[i]);
        }
    }

    private static void lines() {
        due.says("line: .. the LINE itself (what = 0), its TIME (1), MOST (2), SPEED (3) in the RUN; "
            + "NONE: there is none such (for any other i, too). BAD: what");
        range("what", k -> some().line(0, k), 0, 3, BAD);
        int[] others = {Integer.MIN_VALUE, -1, 3, 4, 7, 8, 9, 256, Integer.MAX_VALUE};
        for (int i : others) {
            for (int what = 0; what < 4; what++) {
                due.is("line(" + i + ", " + what + ")", some().line(i, what), NONE);
            }
            due.is("line(" + i + ", -1)", some().line(i, -1), BAD);
            due.is("line(" + i + ", 4)", some().line(i, 4), BAD);
        }
        int[][] want = {{6, 10, 8, 1}, {0, 0, 9, 2}, {1, 9, 8, 1}};
        for (int i = 0; i < 3; i++) {
            for (int what = 0; what < 4; what++) {
                due.is("line(" + i + ", " + what + ")", some().line(i, what), want[i][what]);
            }
        }
    }

    private static void puts() {
        due.says("put: PUT: how many LINES are in THE QUEUE. BAD: w (0 .. 255; DOTS that there are); FULL: 8");
        for (int n = 1; n <= 8; n++) {
            int dots = n;
            range("put of " + n, k -> Jobs.of(dots).told().put(k), 0, (1 << n) - 1, BAD);
        }
        HeatLines x = Jobs.of(3).told();
        for (int i = 1; i <= 8; i++) {
            due.is("put", x.put(7), i);
        }
        due.is("a ninth", x.put(7), FULL);
        due.is("a blank ninth", x.put(0), FULL);
        due.is("a bad ninth", x.put(8), BAD);
        due.is("acts", x.about(17), 8);
    }

    private static void prints() {
        due.says("print: PRINTING: how many LINES were PRINTED. BAD: n (1 .. 9)");
        range("print", k -> some().print(k), 1, 9, BAD);
        range("print of none", k -> new HeatLines().print(k), 1, 9, BAD);
        for (int n = 1; n <= 9; n++) {
            due.is("print(" + n + ") of three", some().print(n), Math.min(3, n));
        }
    }

    private static void pauses() {
        due.says("pause: PAUSE: all HEAT together, then. BAD: k");
        range("pause", k -> some().pause(k), 1, 99, BAD);
        HeatLines x = Jobs.of(8).told();
        due.is("cold", x.pause(1), 0);
        x.put(255);
        x.print(1);
        due.is("108, 126 of eight, halved", x.pause(1), 2 * 54 + 6 * 63);
        due.is("once more", x.pause(1), 2 * 27 + 6 * 32);
        due.is("for good", x.pause(99), 8);
    }

    private static void sets() {
        due.says("set: TABLE told: what that figure was. BAD: i (0 .. 4), v (no more than the figure ahead, "
            + "9 at most; no less than the next one, 0 at least)");
        range("i", k -> Jobs.of(1).table("99999").told().set(k, 9), 0, 4, BAD);
        range("t0", k -> some().set(0, k), 7, 9, BAD);
        range("t1", k -> some().set(1, k), 5, 9, BAD);
        range("t2", k -> some().set(2, k), 3, 7, BAD);
        range("t3", k -> some().set(3, k), 1, 5, BAD);
        range("t4", k -> some().set(4, k), 0, 3, BAD);
        range("t0 of a new one", k -> new HeatLines().set(0, k), 0, 9, BAD);
        range("t1 of a new one", k -> new HeatLines().set(1, k), 0, 0, BAD);
        range("t4 of nines", k -> Jobs.of(1).table("99999").told().set(4, k), 0, 9, BAD);
        range("t3 of nines", k -> Jobs.of(1).table("99999").told().set(3, k), 9, 9, BAD);
        int[] was = {9, 7, 5, 3, 1};
        for (int i = 0; i < 5; i++) {
            HeatLines x = some();
            due.is("what it was", x.set(i, was[i] == 9 ? 8 : was[i] + 1), was[i]);
            due.is("what it is", x.set(i, was[i]), was[i] == 9 ? 8 : was[i] + 1);
        }
    }

    private static void ribbons() {
        due.says("ribbon: RIBBON is v: what it was. BAD: v (0 .. 999)");
        range("ribbon", k -> some().ribbon(k), 0, 999, BAD);
        HeatLines x = some();
        due.is("what it was", x.ribbon(0), 97);
        due.is("0", x.ribbon(999), 0);
        due.is("999", x.ribbon(998), 999);
    }

    private static void undos() {
        due.says("undo: The last ACT is undone: how many are left. LATE: there is none");
        HeatLines x = new HeatLines();
        due.is("of none", x.undo(), LATE);
        for (int all = 1; all <= 16; all++) {
            HeatLines y = new HeatLines();
            for (int i = 0; i < all; i++) {
                y.ribbon(i + 1);
            }
            for (int left = Math.min(14, all) - 1; left >= 0; left--) {
                due.is("of " + all, y.undo(), left);
            }
            due.is("of none any more", y.undo(), LATE);
            due.is("ribbon", y.about(9), Math.max(0, all - 14));
        }
    }

    private static void aheads() {
        due.says("ahead: AHEAD: HEAT of a DOT. UNKNOWN; BAD: n (0 .. 9)");
        range("dot", k -> some().ahead(1, k), 0, 3, UNKNOWN);
        range("dot, by a bad n", k -> k >= 0 && k <= 3 ? 0 : some().ahead(10, k), 0, 3, UNKNOWN);
        range("n", k -> some().ahead(k, 3), 0, 9, BAD);
    }

    private static void fits() {
        due.says("fit: FIT. BAD: i");
        range("fit", k -> some().fit(k), 0, 4, BAD);
        range("fit of none", k -> new HeatLines().fit(k), 0, 4, BAD);
    }

    private static void judges() {
        due.says("judge: JUDGED; NONE. BAD: n, row (0 or more, 4 n figures at most)");
        range("n", k -> some().judge(k, 3001), 1, 4, BAD);
        long beyond = 1;
        for (int n = 1; n <= 4; n++) {
            beyond *= 10000;
            due.is("row 0 of " + n, some().judge(n, 0), 0);
            due.is("row -1 of " + n, some().judge(n, -1), BAD);
            due.is("the last row of " + n, some().judge(n, beyond - 1), 0);
            due.is("the first beyond of " + n, some().judge(n, beyond), BAD);
            due.is("an int's worth beyond of " + n, some().judge(n, beyond + (1L << 32)), BAD);
            due.is("the greatest of " + n, some().judge(n, Long.MAX_VALUE), BAD);
            due.is("the least of " + n, some().judge(n, Long.MIN_VALUE), BAD);
        }
        due.is("a row beyond an int whose low bits could be", some().judge(1, 3001 + (1L << 32)), BAD);
        due.is("all can be", some().judge(4, 3001300130013001L), NONE);
    }

    private static void sees() {
        due.says("see: SEEN: how many there are. UNKNOWN: dot; BAD: n (0 .. 8), v (0 .. 999); FULL: 6");
        range("dot", k -> some().see(k, 0, 0), 0, 3, UNKNOWN);
        range("n", k -> some().see(0, k, 0), 0, 8, BAD);
        range("v", k -> some().see(0, 0, k), 0, 999, BAD);
        HeatLines x = some();
        for (int i = 1; i <= 6; i++) {
            due.is("see", x.see(3, 8, 999), i);
        }
        due.is("a seventh", x.see(3, 8, 999), FULL);
        due.is("a bad seventh", x.see(3, 8, 1000), BAD);
        due.is("an unknown seventh", x.see(4, 8, 1000), UNKNOWN);
        due.is("seen", x.about(18), 6);
    }

    private static void unsees() {
        due.says("unsee: Nothing is SEEN: how much there was");
        HeatLines x = some();
        for (int all = 0; all <= 6; all++) {
            for (int i = 0; i < all; i++) {
                x.see(0, 0, 999);
            }
            due.is("which", x.which(), all == 0 ? 15 : 0);
            due.is("of " + all, x.unsee(), all);
            due.is("seen", x.about(18), 0);
            due.is("which of all", x.which(), 15);
        }
    }

    private static void whiches() {
        due.says("which: WHICH");
        for (int n = 1; n <= 8; n++) {
            due.is("nothing seen", Jobs.of(n).told().which(), (1 << n) - 1);
        }
        HeatLines x = Jobs.of(8).table("90000").lines(255).told();
        x.see(0, 0, 0);
        due.is("all", x.which(), 255);
        x.see(0, 0, 1);
        due.is("none", x.which(), 0);
    }

    private static void shares() {
        due.says("share: SHARE. UNKNOWN");
        for (boolean upper : new boolean[] {true, false}) {
            range("share", k -> k >= 0 && k < 4 ? 0 : some().share(k, upper), 0, 3, UNKNOWN);
            range("share of one", k -> new HeatLines().share(k, upper), 0, 0, UNKNOWN);
        }
        due.is("the last dot of eight", Jobs.of(8).low(90).lines(128).told().share(7, true), 1);
    }

    private static void chances() {
        due.says("chance: CHANCE. BAD: v, x");
        for (boolean upper : new boolean[] {true, false}) {
            range("v", k -> some().chance(k, 5, upper), 0, 64, BAD);
            range("x", k -> some().chance(3, k, upper), 0, 10, BAD);
        }
    }

    private static void seeds() {
        due.says("seed: THE SEED is v: what it was");
        HeatLines x = new HeatLines();
        long was = 0;
        for (long v : new long[] {1, -1, Long.MAX_VALUE, Long.MIN_VALUE, BAD, NONE, 1L << 32, 0}) {
            due.is("seed(" + v + ")", x.seed(v), was);
            was = v;
        }
    }

    private static void draws() {
        due.says("drawn: DRAWN. BAD: m");
        range("drawn", k -> some().drawn(k), 1, 20, BAD);
        range("drawn of a new one", k -> new HeatLines().drawn(k), 1, 20, BAD);
    }

    private static void keeps() {
        due.says("keep: They are kept: PRINTED. UNKNOWN");
        range("keep", k -> some().keep(k), 0, 1, UNKNOWN);
        due.is("printed of none", new HeatLines().keep(0), 0);
        due.is("printed of two", some().keep(1), 2);
        HeatLines x = some();
        x.keep(0);
        x.print(1);
        due.is("kept anew", x.keep(0), 3);
        x.print(1);
        due.is("the new one", x.again(0), 3);
    }

    private static long againOf(int slot) {
        HeatLines x = some();
        x.keep(0);
        x.keep(1);
        return x.again(slot);
    }

    private static void agains() {
        due.says("again: They are as they were kept: PRINTED. UNKNOWN; LATE: none were kept");
        range("again", EdgesOfPromisesTest::againOf, 0, 1, UNKNOWN);
        for (int slot = 0; slot <= 1; slot++) {
            HeatLines x = some();
            due.is("none were kept", x.again(slot), LATE);
            due.is("acts stay", x.about(17), 1);
            x.keep(1 - slot);
            due.is("none were kept in this one", x.again(slot), LATE);
            x.keep(slot);
            x.print(3);
            due.is("again", x.again(slot), 2);
            due.is("and again", x.again(slot), 2);
        }
        HeatLines undone = some();
        undone.keep(0);
        undone.undo();
        due.is("what was kept is not undone", undone.again(0), 2);
    }
}
