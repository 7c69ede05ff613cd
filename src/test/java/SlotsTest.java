/** Promises 26 and 27: keep, again. */
public final class SlotsTest {
    private static final Due due = new Due("SlotsTest");
    private static final String HEAD = "H41205012002097531";

    public static void main(String[] args) {
        refusals();
        keepsAll();
        keepsTwo();
        leavesTheRest();
        due.end();
    }

    private static void refusals() {
        HeatLines x = Due.told(HEAD);
        due.is("keep(-1)", x.keep(-1), HeatLines.UNKNOWN);
        due.is("keep(2)", x.keep(2), HeatLines.UNKNOWN);
        due.is("again(-1)", x.again(-1), HeatLines.UNKNOWN);
        due.is("again(2)", x.again(2), HeatLines.UNKNOWN);
        due.is("again(0)", x.again(0), HeatLines.LATE);
        due.is("again(1)", x.again(1), HeatLines.LATE);
        x.keep(1);
        x.put(1);
        due.is("again of the other", x.again(0), HeatLines.LATE);
        due.is("a late one leaves the acts", x.about(17), 1);
    }

    private static void keepsAll() {
        HeatLines x = Due.told(HEAD + "loo--lo---lo---lo---l-o--");
        x.print(2);
        x.set(0, 8);
        String acts = Due.allOf(x);
        due.is("keep(0)", x.keep(0), 2);
        due.unchanged("keep", acts, x);
        x.undo();
        x.undo();
        String was = Due.allOf(x);
        due.is("keep(1)", x.keep(1), 0);
        x.print(3);
        x.pause(3);
        x.put(3);
        x.set(2, 6);
        x.ribbon(1);
        due.is("again(1)", x.again(1), 0);
        due.unchanged("what was kept, gone on from,", was, x);
        due.is("again(0)", x.again(0), 2);
        due.is("no acts", x.about(17), 0);
        due.is("undo", x.undo(), HeatLines.LATE);
        due.is("heat", x.heat(0), 112);
        due.is("table", x.table(0), 8);
        due.is("queue", x.about(6), 3);
        due.is("last", x.about(7), 1);
        due.is("before", x.about(8), 3);
        due.is("ribbon", x.about(9), 97);
        due.is("right", x.about(10), 3);
        due.is("ghosts", x.about(13), 1);
    }

    private static void keepsTwo() {
        HeatLines x = Due.told(HEAD + "loo--lo---");
        x.keep(0);
        x.print(1);
        x.keep(1);
        x.print(1);
        due.is("again(0)", x.again(0), 0);
        due.is("again(1)", x.again(1), 1);
        due.is("again(1) once more", x.again(1), 1);
        due.is("print on", x.print(1), 1);
        due.is("what is kept stays as it was", x.again(1), 1);
        due.is("heat", x.heat(0), 84);
        due.is("keep anew", x.keep(0), 1);
        x.print(1);
        due.is("again(0) anew", x.again(0), 1);
        x.job();
        due.is("gone with a job", x.again(0), HeatLines.LATE);
        due.is("gone with a job", x.again(1), HeatLines.LATE);
    }

    private static void leavesTheRest() {
        HeatLines x = Due.told(HEAD + "loo--lo---");
        x.keep(0);
        x.write('l');
        x.see(0, 0, 0);
        x.seed(9);
        x.again(0);
        due.is("the text", x.about(19), 29);
        due.is("seen", x.about(18), 1);
        due.is("the seed", x.seed(0), 9);
    }
}
