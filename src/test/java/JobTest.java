/** Promises 1 to 9: a new object, write, wipe, fault, job, about, heat, table, line. */
public final class JobTest {
    private static final Due due = new Due("JobTest");
    private static final String HEAD = "H41205012002097531";

    public static void main(String[] args) {
        newObject();
        writing();
        wiping();
        faultsOfTheHead();
        faultsOfTheLines();
        everyLetterOfAJob();
        theJob();
        lateJob();
        jobAfterAJob();
        abouts();
        heats();
        tables();
        lines();
        times();
        speeds();
        rests();
        due.end();
    }

    private static void newObject() {
        HeatLines x = new HeatLines();
        int[] want = {1, 1, 1, 0, 0, 0, 0, 0, 0, 0, 0, 0, 0, 0, 0, 0, HeatLines.NONE, 0, 0, 0};
        for (int what = 0; what < want.length; what++) {
            due.is("new: about(" + what + ")", x.about(what), want[what]);
        }
        due.is("new: heat(0)", x.heat(0), 0);
        for (int i = 0; i < 5; i++) {
            due.is("new: table(" + i + ")", x.table(i), 0);
        }
        due.is("new: undo()", x.undo(), HeatLines.LATE);
        due.is("new: again(1)", x.again(1), HeatLines.LATE);
        due.is("new: seed(3)", x.seed(3), 0);
        due.is("new: fault()", x.fault(), 0);
    }

    private static void writing() {
        HeatLines x = new HeatLines();
        due.is("write(-1)", x.write(-1), HeatLines.BAD);
        due.is("write(256)", x.write(256), HeatLines.BAD);
        for (int i = 1; i <= 99; i++) {
            due.is("write " + i, x.write(i == 1 ? 0 : 255), i);
        }
        due.is("write a hundredth", x.write('H'), HeatLines.FULL);
        due.is("BAD ahead of FULL", x.write(256), HeatLines.BAD);
        due.is("write(MIN)", x.write(Integer.MIN_VALUE), HeatLines.BAD);
        due.is("letters", x.about(19), 99);
    }

    private static void wiping() {
        HeatLines x = new HeatLines();
        due.is("wipe of none", x.wipe(), 0);
        x.write('H');
        x.write('4');
        due.is("wipe of two", x.wipe(), 2);
        due.is("letters behind it", x.about(19), 0);
        due.is("write behind it", x.write('H'), 1);
        due.is("fault: the 4 is gone", x.fault(), 1);
    }

    private static void faultIs(String text, int want) {
        HeatLines x = new HeatLines();
        Due.writeText(x, text);
        due.is("fault of " + text, x.fault(), want);
        due.is("job of " + text, x.job() >= 0 ? 1 : 0, want == HeatLines.NONE ? 1 : 0);
    }

    private static void faultsOfTheHead() {
        faultIs("", 0);
        faultIs("h", 0);
        faultIs(" H", 0);
        faultIs("H0", 1);
        faultIs("H9", 1);
        faultIs("H8", 2);
        faultIs("H80", 2);
        faultIs("H85", 2);
        faultIs("H14", 3);
        faultIs("H140", 3);
        faultIs("H149", 3);
        faultIs("H148", 4);
        faultIs("H148a", 4);
        faultIs("H148/", 4);
        faultIs("H148:", 4);
        faultIs("H14899999999", 12);
        faultIs("H148999999990", 13);
        faultIs("H148999999990x", 13);
        faultIs("H148999000999", 13);
        faultIs("H1489990009995", 14);
        faultIs("H14899900099956", 14);
        faultIs("H14899900099955556", 17);
        faultIs("H14899900099955", 15);
        faultIs("H148999000999555550", 18);
        faultIs("H148999000999000000", 18);
        faultIs("H14899900099900000", HeatLines.NONE);
        faultIs("H14899900099999999", HeatLines.NONE);
        faultIs("H148999000999\u00f99999", 13);
    }

    private static void faultsOfTheLines() {
        faultIs(HEAD, HeatLines.NONE);
        faultIs(HEAD + "L", 18);
        faultIs(HEAD + "l", 19);
        faultIs(HEAD + "lo-o", 22);
        faultIs(HEAD + "lo-oO", 22);
        faultIs(HEAD + "lo-o0", 22);
        faultIs(HEAD + "lo-ol", 22);
        faultIs(HEAD + "lo-o-", HeatLines.NONE);
        faultIs(HEAD + "lo-o-o", 23);
        faultIs(HEAD + "lo-o- ", 23);
        faultIs(HEAD + "lo-o-l", 24);
        String eight = HEAD;
        for (int i = 0; i < 8; i++) {
            eight = eight + "l--oo";
        }
        faultIs(eight, HeatLines.NONE);
        faultIs(eight + "l", 58);
        faultIs(eight + "l----", 58);
        faultIs(eight + "-", 58);
        String wide = "H81205012002097531";
        for (int i = 0; i < 8; i++) {
            wide = wide + "l--oo--oo";
        }
        faultIs(wide, HeatLines.NONE);
        faultIs(wide + "l--------", 90);
    }

    /** Letter by letter the fault is the length; a wrong letter is the fault at its own place for good. */
    private static void everyLetterOfAJob() {
        String job = "H32105012002097531lo-olooo";
        for (int cut = 0; cut < job.length(); cut++) {
            boolean ended = cut >= 18 && (cut - 18) % 4 == 0;
            faultIs(job.substring(0, cut), ended ? HeatLines.NONE : cut);
            faultIs(job.substring(0, cut) + "!" + job.substring(cut + 1), cut);
        }
    }

    private static void theJob() {
        HeatLines x = new HeatLines();
        Due.writeText(x, "H42305012002097531lo--oloo--");
        due.is("job()", x.job(), 2);
        int[] want = {4, 2, 3, 50, 120, 20, 2, 0, 0, 99, 0, 0, 0, 0, 0};
        for (int what = 0; what < want.length; what++) {
            due.is("job: about(" + what + ")", x.about(what), want[what]);
        }
        due.is("job: letters", x.about(19), 28);
        due.is("job: line(0, 0)", x.line(0, 0), 9);
        due.is("job: line(1, 0)", x.line(1, 0), 3);
        due.is("job of no lines", Due.told(HEAD).about(6), 0);
    }

    private static void lateJob() {
        HeatLines x = Due.told(HEAD + "lo--oloo--");
        x.put(5);
        x.print(1);
        x.keep(0);
        x.see(1, 1, 14);
        x.write('l');
        String was = Due.allOf(x);
        due.is("job with a fault", x.job(), HeatLines.LATE);
        due.unchanged("a late job", was, x);
        due.is("undo behind a late job", x.undo(), 1);
        due.is("again behind a late job", x.again(0), 1);
    }

    private static void jobAfterAJob() {
        HeatLines x = Due.told("H41209009000097531loo--loooo");
        x.seed(77);
        x.print(2);
        due.is("pale ahead of it", x.about(11), 4);
        due.is("dark ahead of it", x.about(12), 2);
        due.is("ghosts ahead of it", x.about(13), 1);
        x.ribbon(7);
        x.see(3, 0, 1);
        x.keep(1);
        due.is("job again", x.job(), 2);
        for (int d = 0; d < 4; d++) {
            due.is("cold again", x.heat(d), 0);
        }
        int[] want = {4, 1, 2, 90, 90, 0, 2, 0, 0, 99, 0, 0, 0, 0, 0};
        for (int what = 0; what < want.length; what++) {
            due.is("job again: about(" + what + ")", x.about(what), want[what]);
        }
        due.is("no acts", x.about(17), 0);
        due.is("seen stays", x.about(18), 1);
        due.is("the text stays", x.about(19), 28);
        due.is("undo", x.undo(), HeatLines.LATE);
        due.is("what was kept is gone", x.again(1), HeatLines.LATE);
        due.is("the seed stays", x.seed(0), 77);
        Due.writeText(x, "H11100000000000000");
        due.is("a smaller job", x.job(), 0);
        due.is("a smaller job's dots", x.about(0), 1);
        due.is("a smaller job's heat(1)", x.heat(1), HeatLines.UNKNOWN);
        due.is("a smaller job's table", x.table(0), 0);
    }

    private static void abouts() {
        HeatLines x = Due.told(HEAD + "loo--lo---lo---l----");
        due.is("print(3)", x.print(3), 3);
        int[] want = {4, 1, 2, 50, 120, 20, 1, 1, 1, 96, 4, 0, 0, 2, 3};
        for (int what = 0; what < want.length; what++) {
            due.is("three lines: about(" + what + ")", x.about(what), want[what]);
        }
        due.is("about(-1)", x.about(-1), HeatLines.BAD);
        due.is("about(20)", x.about(20), HeatLines.BAD);
        due.is("about(17)", x.about(17), 1);
    }

    private static void heats() {
        HeatLines x = Due.told(HEAD + "loo--lo---lo---");
        x.print(1);
        int[] one = {84, 84, 14, 0};
        for (int d = 0; d < 4; d++) {
            due.is("one line: heat(" + d + ")", x.heat(d), one[d]);
        }
        x.print(1);
        int[] two = {112, 56, 7, 0};
        for (int d = 0; d < 4; d++) {
            due.is("two lines: heat(" + d + ")", x.heat(d), two[d]);
        }
        x.print(1);
        int[] three = {106, 38, 4, 0};
        for (int d = 0; d < 4; d++) {
            due.is("three lines: heat(" + d + ")", x.heat(d), three[d]);
        }
        due.is("heat(-1)", x.heat(-1), HeatLines.UNKNOWN);
        due.is("heat(4)", x.heat(4), HeatLines.UNKNOWN);
    }

    private static void tables() {
        HeatLines x = Due.told(HEAD);
        int[] want = {9, 7, 5, 3, 1};
        for (int i = 0; i < 5; i++) {
            due.is("table(" + i + ")", x.table(i), want[i]);
        }
        due.is("table(-1)", x.table(-1), HeatLines.BAD);
        due.is("table(5)", x.table(5), HeatLines.BAD);
    }

    private static void lines() {
        HeatLines x = Due.told(HEAD + "l--oolo---");
        due.is("line(0, 0)", x.line(0, 0), 12);
        due.is("line(1, 0)", x.line(1, 0), 1);
        due.is("line(2, 0)", x.line(2, 0), HeatLines.NONE);
        due.is("line(-1, 3)", x.line(-1, 3), HeatLines.NONE);
        due.is("line(MAX, 1)", x.line(Integer.MAX_VALUE, 1), HeatLines.NONE);
        due.is("line(0, -1)", x.line(0, -1), HeatLines.BAD);
        due.is("line(0, 4)", x.line(0, 4), HeatLines.BAD);
        due.is("line(9, 4): BAD first", x.line(9, 4), HeatLines.BAD);
    }

    private static void times() {
        // Pulses 7 9 (3 dots: one alone, two side by side), strobes of 2: 9 and 7, then 7.
        HeatLines x = Due.told("H51205012002097531loo-o-l-----loooool-o---");
        due.is("time of 9 7 | 7", x.line(0, 1), 16);
        due.is("most of 16", x.line(0, 2), 8);
        due.is("time of a blank line", x.line(1, 1), 0);
        due.is("most of a blank line", x.line(1, 2), 9);
        // 2 beside, before: t3, but for dots 2 (t2) and 4 (t1), and 0 (t2): 7 5 | 5 3 | 3.
        due.is("time of 7 5 | 5 3 | 3", x.line(2, 1), 15);
        due.is("time of t1", x.line(3, 1), 7);
        x.print(1);
        due.is("the same line, now the second", x.line(1, 1), 15);
        // Five dots of 9 one by one: 45, so that the most is 4; eight: 72, 1; a pulse of 0 fills a strobe.
        due.is("five by one", Due.told("H51100000000099999looooo").line(0, 1), 45);
        due.is("five by one: most", Due.told("H51100000000099999looooo").line(0, 2), 4);
        due.is("eight by one: most", Due.told("H81100000000099999loooooooo").line(0, 2), 1);
        HeatLines zero = Due.told("H51200000000090000loo-o-");
        due.is("9 0 | 0", zero.line(0, 1), 9);
        due.is("9 0 | 0: most", zero.line(0, 2), 8);
        HeatLines wide = Due.told("H81800000000099999loooooooo");
        due.is("eight at once", wide.line(0, 1), 9);
    }

    private static void speeds() {
        String blank = "H11100000000000000";
        for (int k = 1; k <= 8; k++) {
            blank = blank + "l-";
            HeatLines x = Due.told(blank);
            int ticks = 0;
            for (int i = 0; i < k; i++) {
                int want = Math.min(i + 1, k - i);
                due.is("speed of blank line " + i + " of " + k, x.line(i, 3), want);
                ticks += 60 / want;
            }
            due.is("ticks of " + k, x.about(15), ticks);
        }
        // The fifth is black in eight dots of 9: it may go by 1 alone.
        String slow = "H81100000000099999";
        for (int i = 0; i < 7; i++) {
            slow = slow + (i == 4 ? "loooooooo" : "l--------");
        }
        HeatLines x = Due.told(slow);
        int[] want = {1, 2, 3, 2, 1, 2, 1};
        for (int i = 0; i < 7; i++) {
            due.is("speed with a slow one " + i, x.line(i, 3), want[i]);
        }
        due.is("ticks with a slow one", x.about(15), 60 + 30 + 20 + 30 + 60 + 30 + 60);
    }

    private static void rests() {
        due.is("rest of an empty queue", Due.told(HEAD).about(16), HeatLines.NONE);
        // 90 each time: 90, 135, 158; 90 + 158 / 2 = 169, 130, 110, 100 (cut as it cools), ...
        HeatLines x = Due.told("H11100010000099999lololo");
        due.is("rest at first", x.about(16), 0);
        x.print(2);
        due.is("heat of two", x.heat(0), 135);
        due.is("135 34 17 9: 9 + 90 is 100 or less", x.about(16), 3);
        x.pause(2);
        due.is("rest behind two pauses", x.about(16), 1);
        x.pause(1);
        due.is("rest behind three pauses", x.about(16), 0);
        due.is("rest set aside from the ribbon", restWithoutRibbon(), 0);
        due.is("dark by itself", Due.told("H11100008900099999lo").about(16), HeatLines.NONE);
        // A ghost beside: 18 of the line itself is too much, or not.
        due.is("a ghost by itself", Due.told("H21100099901799999lo-").about(16), HeatLines.NONE);
        due.is("no ghost", Due.told("H21100099901899999lo-").about(16), 0);
        due.is("pale is no matter", Due.told("H21199999901899999lo-").about(16), 0);
        // Cooled by 1 / 16 a time, heat stays at 15: ghosts of that never go.
        HeatLines slow = Due.told("H14100099901499999lol-");
        slow.print(1);
        due.is("ghost that stays", slow.about(16), HeatLines.NONE);
        // 90 by 1 / 16: 41 is gone under only behind twelve coolings, one of them the line's own.
        HeatLines ghost = Due.told("H14100099904199999lol-");
        ghost.print(1);
        due.is("ghost that goes", ghost.about(16), coolingsTo(90, 41) - 1);
        longestRest();
    }

    /** A dot at 999 and a blank line: the ghost is gone behind 61 coolings, or only behind 62. */
    private static void longestRest() {
        int heat = 999;
        for (int i = 0; i < 61; i++) {
            heat -= heat >> 4;
        }
        for (int k = 59; k <= 61; k++) {
            HeatLines x = Due.told(String.format("H341000999%03d99999", heat + 60 - k));
            for (int i = 0; i < 40; i++) {
                x.put(7);
                x.print(1);
            }
            due.is("heat of the middle one", x.heat(1), 999);
            x.put(0);
            due.is("rest of " + k, x.about(16), k <= 60 ? k : HeatLines.NONE);
        }
    }

    private static int restWithoutRibbon() {
        HeatLines x = Due.told("H11100010000099999lolo");
        x.ribbon(0);
        return x.about(16);
    }

    private static int coolingsTo(int from, int to) {
        int times = 0;
        for (int heat = from; heat > to; heat -= heat >> 4) {
            times++;
        }
        return times;
    }
}
