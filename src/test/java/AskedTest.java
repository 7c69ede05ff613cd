/** Promises 16 to 18: ahead, fit, judge. */
public final class AskedTest {
    private static final Due due = new Due("AskedTest");
    private static final String HEAD = "H41205012002097531";

    public static void main(String[] args) {
        aheads();
        aheadGoesByTheRibbon();
        fits();
        fitsBetweenNeighbours();
        judgesWhatIsBad();
        judgesPut();
        judgesPrinting();
        judgesPause();
        judgesRight();
        judgesLast();
        judgesTable();
        judgesOthers();
        judgesInARow();
        nothingChanges();
        due.end();
    }

    private static void aheads() {
        HeatLines x = Due.told(HEAD + "loo--lo---lo---");
        int[][] want = {{0, 0, 0, 0}, {84, 84, 14, 0}, {112, 56, 7, 0}, {106, 38, 4, 0}, {106, 38, 4, 0}};
        for (int n = 0; n < want.length; n++) {
            for (int d = 0; d < 4; d++) {
                due.is("ahead(" + n + ", " + d + ")", x.ahead(n, d), want[n][d]);
            }
        }
        due.is("ahead(9, 0)", x.ahead(9, 0), 106);
        due.is("ahead(10, 0)", x.ahead(10, 0), HeatLines.BAD);
        due.is("ahead(-1, 0)", x.ahead(-1, 0), HeatLines.BAD);
        due.is("ahead(1, 4)", x.ahead(1, 4), HeatLines.UNKNOWN);
        due.is("ahead(1, -1)", x.ahead(1, -1), HeatLines.UNKNOWN);
        due.is("UNKNOWN ahead of BAD", x.ahead(10, 4), HeatLines.UNKNOWN);
    }

    private static void aheadGoesByTheRibbon() {
        HeatLines x = Due.told(HEAD + "l----loo--lo---lo---");
        x.ribbon(1);
        due.is("two lines", x.ahead(2, 0), 84);
        due.is("no ribbon for a third", x.ahead(3, 0), 84);
        x.ribbon(2);
        due.is("ribbon for a third", x.ahead(3, 0), 112);
    }

    private static void fits() {
        // One dot, heat 10 t0, right from 40 to 60: 4, 5, 6 are alike.
        HeatLines x = Due.told("H11104006099990000lo");
        due.is("fit(0)", x.fit(0), 4);
        due.is("fit(1)", x.fit(1), 0);
        x.ribbon(0);
        due.is("fit(0), the ribbon set aside", x.fit(0), 4);
        // Two lines: 10 t0, then 5 t0 and 10 t1. For t1: 45 and 10 t1 is to be 60 to 70.
        HeatLines two = Due.told("H11106007099993000lolo");
        due.is("fit(1)", two.fit(1), 2);
        two.print(1);
        due.is("fit(1) from how it stands", two.fit(1), 2);
        due.is("fit(0) does not matter now", two.fit(0), 3);
        due.is("fit(-1)", x.fit(-1), HeatLines.BAD);
        due.is("fit(5)", x.fit(5), HeatLines.BAD);
        // 10 v, then 11 v: 6 is right in one of them, 4 and 5 in both.
        HeatLines both = Due.told("H21104006099990000lo-l-o");
        due.is("fit(0) of both", both.fit(0), 4);
    }

    private static void fitsBetweenNeighbours() {
        HeatLines x = Due.told(HEAD);
        int[] least = {7, 5, 3, 1, 0};
        for (int i = 0; i < 5; i++) {
            due.is("empty queue: fit(" + i + ")", x.fit(i), least[i]);
        }
        // Two side by side are 12 t1 each: 99 takes the most that there is.
        HeatLines pale = Due.told("H21109999909999531loo");
        due.is("the most that there is", pale.fit(1), 9);
        HeatLines none = Due.told("H21199999909997531loo");
        due.is("none is right: the least that may be", none.fit(1), 5);
        due.is("t0 no less than t1", none.fit(0), 7);
        due.is("t4 from 0", none.fit(4), 0);
    }

    private static void judgesWhatIsBad() {
        HeatLines x = Due.told(HEAD + "lo---");
        due.is("judge(0, 0)", x.judge(0, 0), HeatLines.BAD);
        due.is("judge(5, 0)", x.judge(5, 0), HeatLines.BAD);
        due.is("judge(-1, 0)", x.judge(-1, 0), HeatLines.BAD);
        due.is("judge(1, -1)", x.judge(1, -1), HeatLines.BAD);
        due.is("judge(1, 10000)", x.judge(1, 10000), HeatLines.BAD);
        due.is("judge(1, 9999)", x.judge(1, 9999), 0);
        due.is("judge(2, 100000000)", x.judge(2, 100000000L), HeatLines.BAD);
        due.is("judge(3, 10^12)", x.judge(3, 1000000000000L), HeatLines.BAD);
        due.is("judge(4, 10^16)", x.judge(4, 10000000000000000L), HeatLines.BAD);
        due.is("judge(4, 10^16 less 1)", x.judge(4, 9999999999999999L), 0);
        due.is("judge(4, MAX)", x.judge(4, Long.MAX_VALUE), HeatLines.BAD);
        due.is("judge(4, MIN)", x.judge(4, Long.MIN_VALUE), HeatLines.BAD);
    }

    private static void judgesPut() {
        HeatLines x = Due.told(HEAD + "lo---");
        due.is("put 15", x.judge(1, 1015), HeatLines.NONE);
        due.is("put 16", x.judge(1, 1016), 0);
        due.is("put 999", x.judge(1, 1999), 0);
        due.is("put 0", x.judge(1, 1000), HeatLines.NONE);
        for (int i = 0; i < 6; i++) {
            x.put(1);
        }
        due.is("put an eighth, a ninth", x.judge(2, 10011001L), 1);
        due.is("room by printing", x.judge(4, 1001200110011001L), 3);
        HeatLines wide = Due.told("H81205012002097531");
        due.is("put 255", wide.judge(1, 1255), HeatLines.NONE);
        due.is("put 256", wide.judge(1, 1256), 0);
    }

    private static void judgesPrinting() {
        HeatLines x = Due.told(HEAD + "lo---l----lo---");
        due.is("print 3", x.judge(1, 2003), HeatLines.NONE);
        due.is("print 4 of 3", x.judge(1, 2004), 0);
        due.is("print 0", x.judge(1, 2000), 0);
        due.is("print 010", x.judge(1, 2010), 0);
        due.is("print 101", x.judge(1, 2101), 0);
        due.is("print 1, 2", x.judge(2, 20012002L), HeatLines.NONE);
        due.is("print 1, 3", x.judge(2, 20012003L), 1);
        x.ribbon(1);
        due.is("print 2 by a ribbon of 1", x.judge(1, 2002), HeatLines.NONE);
        due.is("print 3 by a ribbon of 1", x.judge(1, 2003), 0);
    }

    private static void judgesPause() {
        HeatLines x = Due.told(HEAD);
        due.is("pause 1", x.judge(1, 3001), HeatLines.NONE);
        due.is("pause 99", x.judge(1, 3099), HeatLines.NONE);
        due.is("pause 0", x.judge(1, 3000), 0);
        due.is("pause 100", x.judge(1, 3100), 0);
        // 90 and 45 is too dark; behind a pause it is right.
        HeatLines dark = Due.told("H11105012099999999lolo");
        due.is("dark", dark.judge(2, 20024002L), 1);
        due.is("cooled", dark.judge(4, 2001300120014002L), HeatLines.NONE);
    }

    private static void judgesRight() {
        HeatLines x = Due.told(HEAD + "loo--lo---lo---");
        due.is("right 0", x.judge(1, 4000), HeatLines.NONE);
        due.is("right 1", x.judge(1, 4001), 0);
        due.is("right behind one", x.judge(2, 20014002L), HeatLines.NONE);
        due.is("right behind three", x.judge(2, 20034004L), HeatLines.NONE);
        due.is("not so", x.judge(2, 20034005L), 1);
        x.print(1);
        due.is("in all, not only from now on", x.judge(2, 20014003L), HeatLines.NONE);
    }

    private static void judgesLast() {
        HeatLines x = Due.told(HEAD + "lo-o-");
        due.is("not in last", x.judge(1, 5000), HeatLines.NONE);
        due.is("in last", x.judge(1, 5001), 0);
        x.print(1);
        due.is("0 in last", x.judge(1, 5001), HeatLines.NONE);
        due.is("2 in last", x.judge(1, 5201), HeatLines.NONE);
        due.is("1 in last", x.judge(1, 5101), 0);
        due.is("1 not in last", x.judge(1, 5100), HeatLines.NONE);
        due.is("2 not in last", x.judge(1, 5200), 0);
        due.is("2 in last, by a 2", x.judge(1, 5202), 0);
        due.is("a figure between", x.judge(1, 5211), 0);
        due.is("no such dot", x.judge(1, 5401), 0);
        due.is("no such dot, not in last", x.judge(1, 5400), 0);
        due.is("no such dot 9", x.judge(1, 5900), 0);
        due.is("last behind printing", x.judge(3, 100220015101L), HeatLines.NONE);
    }

    private static void judgesTable() {
        HeatLines x = Due.told(HEAD);
        due.is("t0 8", x.judge(1, 6008), HeatLines.NONE);
        due.is("t0 6", x.judge(1, 6006), 0);
        due.is("t1 8", x.judge(1, 6018), HeatLines.NONE);
        due.is("t4 4", x.judge(1, 6044), 0);
        due.is("t4 0", x.judge(1, 6040), HeatLines.NONE);
        due.is("t5", x.judge(1, 6050), 0);
        due.is("t9", x.judge(1, 6090), 0);
        due.is("a figure ahead", x.judge(1, 6108), 0);
        due.is("t1 8, t2 8", x.judge(2, 60186028L), HeatLines.NONE);
        due.is("t2 8, t1 8", x.judge(2, 60286018L), 0);
    }

    private static void judgesOthers() {
        HeatLines x = Due.told(HEAD + "lo---");
        due.is("0000", x.judge(1, 0), 0);
        due.is("0001", x.judge(1, 1), 0);
        due.is("7000", x.judge(1, 7000), 0);
        due.is("8000", x.judge(1, 8000), 0);
        due.is("9000", x.judge(1, 9000), 0);
        due.is("the first figures are 0", x.judge(2, 2001), 0);
    }

    private static void judgesInARow() {
        HeatLines x = Due.told(HEAD + "lo---");
        due.is("place 3", x.judge(4, 2001100120012001L), 3);
        due.is("place 2", x.judge(3, 200110012002L), 2);
        due.is("place 1, though what is behind is wrong, too", x.judge(4, 6008600660006000L), 1);
        // o--- is 90, then oo-- is 109 and 89.
        due.is("three right, not one", x.judge(4, 1003200250014001L), 3);
        due.is("three right", x.judge(4, 1003200250014003L), HeatLines.NONE);
    }

    private static void nothingChanges() {
        HeatLines x = Due.told(HEAD + "loo--lo---lo---");
        x.print(1);
        x.seed(4);
        String was = Due.allOf(x);
        x.ahead(2, 1);
        x.fit(1);
        x.fit(9);
        x.judge(4, 1001200130056008L);
        x.judge(4, 1001200430056008L);
        x.which();
        x.share(1, true);
        x.chance(3, 4, false);
        due.unchanged("what is asked", was, x);
        due.is("the seed stays", x.seed(0), 4);
    }
}
