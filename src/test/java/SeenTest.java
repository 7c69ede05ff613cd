/** Promises 19 to 21: see, unsee, which. */
public final class SeenTest {
    private static final Due due = new Due("SeenTest");
    private static final String HEAD = "H41205012002097531";

    public static void main(String[] args) {
        sees();
        unsees();
        whichOne();
        whichBySeveral();
        whichFromNow();
        whichGoesByTheRibbon();
        dotsThatAreGone();
        due.end();
    }

    private static void sees() {
        HeatLines x = Due.told(HEAD);
        due.is("see(4, 0, 0)", x.see(4, 0, 0), HeatLines.UNKNOWN);
        due.is("see(-1, 0, 0)", x.see(-1, 0, 0), HeatLines.UNKNOWN);
        due.is("see(0, -1, 0)", x.see(0, -1, 0), HeatLines.BAD);
        due.is("see(0, 9, 0)", x.see(0, 9, 0), HeatLines.BAD);
        due.is("see(0, 0, -1)", x.see(0, 0, -1), HeatLines.BAD);
        due.is("see(0, 0, 1000)", x.see(0, 0, 1000), HeatLines.BAD);
        due.is("UNKNOWN first", x.see(4, 9, 1000), HeatLines.UNKNOWN);
        due.is("none was seen", x.about(18), 0);
        for (int i = 1; i <= 6; i++) {
            due.is("see " + i, x.see(3, 8, 999), i);
        }
        due.is("a seventh", x.see(3, 8, 999), HeatLines.FULL);
        due.is("BAD ahead of FULL", x.see(3, 9, 999), HeatLines.BAD);
        due.is("UNKNOWN ahead of FULL", x.see(4, 8, 999), HeatLines.UNKNOWN);
        due.is("seen", x.about(18), 6);
        due.is("seeing is no act", x.about(17), 0);
    }

    private static void unsees() {
        HeatLines x = Due.told(HEAD);
        due.is("unsee of none", x.unsee(), 0);
        x.see(0, 0, 5);
        x.see(0, 0, 0);
        due.is("nothing can be so", x.which(), 0);
        due.is("unsee of two", x.unsee(), 2);
        due.is("seen", x.about(18), 0);
        due.is("all can be", x.which(), 15);
        due.is("see again", x.see(0, 0, 0), 1);
    }

    private static void whichOne() {
        // Dots 0, 1 have 7: 84 84 14; dot 0 dead: 14 70 14; dot 1 dead: 70 14 0.
        int[][] want = {{0, 84, 12}, {0, 14, 1}, {0, 70, 2}, {1, 70, 1}, {1, 14, 2}, {2, 14, 13}, {2, 0, 2},
            {3, 0, 15}, {3, 1, 0}};
        for (int[] row : want) {
            HeatLines x = Due.told(HEAD + "loo--");
            x.see(row[0], 1, row[1]);
            due.is("which by heat " + row[1] + " of " + row[0], x.which(), row[2]);
            due.is("more lines than there are", seenBehind(8, row[0], row[1]), row[2]);
        }
        HeatLines none = Due.told(HEAD + "loo--");
        none.see(0, 0, 0);
        due.is("behind no line all are alike", none.which(), 15);
    }

    private static int seenBehind(int n, int dot, int heat) {
        HeatLines x = Due.told(HEAD + "loo--");
        x.see(dot, n, heat);
        return x.which();
    }

    private static void whichBySeveral() {
        HeatLines x = Due.told(HEAD + "loo--l--oo");
        x.see(0, 1, 84);
        due.is("not 0, not 1", x.which(), 12);
        // Second line: dot 2 has 7, dot 3 has 7; dot 1 is at 42 and 14 of dot 2.
        x.see(1, 2, 42 + 14);
        due.is("not 2", x.which(), 8);
        x.see(1, 2, 42);
        due.is("none", x.which(), 0);
    }

    private static void whichFromNow() {
        HeatLines x = Due.told(HEAD + "loo--lo---");
        x.see(0, 1, 112);
        due.is("not so as it is", x.which(), 0);
        x.print(1);
        // Now 42 and 70, of any but dot 0 dead: dot 1 was alive until now.
        due.is("so from now on", x.which(), 14);
        x.undo();
        due.is("and back", x.which(), 0);
    }

    private static void whichGoesByTheRibbon() {
        HeatLines x = Due.told(HEAD + "loo--");
        x.see(0, 1, 0);
        due.is("with ribbon", x.which(), 0);
        x.ribbon(0);
        due.is("without ribbon nothing is heated", x.which(), 15);
    }

    private static void dotsThatAreGone() {
        HeatLines x = Due.told(HEAD);
        x.see(3, 0, 500);
        due.is("dot 3 is not so", x.which(), 0);
        Due.writeText(x, "H31205012002097531");
        x.job();
        due.is("dot 3 is gone", x.which(), 7);
        due.is("it is still there", x.about(18), 1);
        Due.writeText(x, HEAD);
        x.job();
        due.is("dot 3 is back", x.which(), 0);
    }
}
