/** Promises 10 to 15: put, print, pause, set, ribbon, undo. */
public final class ActsTest {
    private static final Due due = new Due("ActsTest");
    private static final String HEAD = "H41205012002097531";

    public static void main(String[] args) {
        puts();
        prints();
        marks();
        heatIsHeld();
        ribbonEnds();
        pauses();
        sets();
        ribbons();
        undos();
        actsAreForgotten();
        refusedIsNoAct();
        due.end();
    }

    private static void puts() {
        HeatLines x = Due.told(HEAD + "lo---");
        due.is("put(-1)", x.put(-1), HeatLines.BAD);
        due.is("put(16)", x.put(16), HeatLines.BAD);
        due.is("put(256)", x.put(256), HeatLines.BAD);
        due.is("put(15)", x.put(15), 2);
        due.is("put(0)", x.put(0), 3);
        due.is("line(1, 0)", x.line(1, 0), 15);
        due.is("line(2, 0)", x.line(2, 0), 0);
        for (int i = 4; i <= 8; i++) {
            due.is("put(1)", x.put(1), i);
        }
        due.is("put a ninth", x.put(1), HeatLines.FULL);
        due.is("BAD ahead of FULL", x.put(16), HeatLines.BAD);
        due.is("queue", x.about(6), 8);
        HeatLines wide = Due.told("H81205012002097531");
        due.is("put(255) of 8", wide.put(255), 1);
        due.is("put(256) of 8", wide.put(256), HeatLines.BAD);
    }

    private static void prints() {
        HeatLines x = Due.told(HEAD + "lo---l-o--l----l---o");
        due.is("print(0)", x.print(0), HeatLines.BAD);
        due.is("print(10)", x.print(10), HeatLines.BAD);
        due.is("print(-3)", x.print(-3), HeatLines.BAD);
        due.is("print(1)", x.print(1), 1);
        due.is("last", x.about(7), 1);
        due.is("before", x.about(8), 0);
        due.is("what is first now", x.line(0, 0), 2);
        due.is("print(2)", x.print(2), 2);
        due.is("last is blank", x.about(7), 0);
        due.is("before", x.about(8), 2);
        due.is("ribbon spared", x.about(9), 97);
        due.is("print(9)", x.print(9), 1);
        due.is("printed", x.about(14), 4);
        due.is("print of none", x.print(9), 0);
        due.is("queue", x.about(6), 0);
        due.is("acts", x.about(17), 4);
    }

    private static void marks() {
        // One dot of 90: low and high are right, one less or more is not.
        int[][] want = {{90, 90, 1, 0, 0}, {91, 99, 0, 1, 0}, {0, 89, 0, 0, 1}, {91, 89, 0, 1, 0}};
        for (int[] row : want) {
            HeatLines x = Due.told(String.format("H111%03d%03d99999999lo", row[0], row[1]));
            x.print(1);
            due.is("right by " + row[0] + " " + row[1], x.about(10), row[2]);
            due.is("pale by " + row[0] + " " + row[1], x.about(11), row[3]);
            due.is("dark by " + row[0] + " " + row[1], x.about(12), row[4]);
        }
        HeatLines ghost = Due.told("H31100099901799999l-o-");
        ghost.print(1);
        due.is("two ghosts of 18", ghost.about(13), 2);
        HeatLines none = Due.told("H31100099901899999l-o-");
        none.print(1);
        due.is("no ghosts of 18", none.about(13), 0);
        // t4: both beside, and black in both lines ahead.
        HeatLines all = Due.told("H31100099999998765loooloooloo-");
        all.print(1);
        due.is("t1 t2 t1", all.heat(1), 70 + 2 * 8 + 2 * 8);
        all.print(1);
        due.is("t2 t3 t2", all.heat(1), 102 - 51 + 60 + 2 * 7 + 2 * 7);
        all.print(1);
        due.is("t3 t3 -", all.heat(1), 139 - 69 + 60 + 2 * 6);
        due.is("heat of the one that is out", all.heat(2), cooledTwice() + 2 * 6);
    }

    /** Dot 2 of three lines: 80 + 2 * 7, halved and 70 + 2 * 6 more, halved. */
    private static int cooledTwice() {
        int second = 94 - 47 + 70 + 12;
        return second - (second >> 1);
    }

    private static void heatIsHeld() {
        // By 1 / 16 with 9 each the middle of three settles far above 999.
        HeatLines x = Due.told("H34100099999999999");
        int free = 0;
        for (int i = 0; i < 60; i++) {
            x.put(7);
            x.print(1);
            free = Math.min(999, free - (free >> 4) + 126);
            due.is("held", x.heat(1), free);
        }
        due.is("held to 999", x.heat(1), 999);
        due.is("999 is right, when high is 999", x.about(12), 0);
    }

    private static void ribbonEnds() {
        HeatLines x = Due.told(HEAD + "lo---l----l-o--l----");
        x.ribbon(1);
        due.is("as far as the ribbon goes", x.print(9), 2);
        due.is("ribbon", x.about(9), 0);
        due.is("queue", x.about(6), 2);
        due.is("none", x.print(1), 0);
        x.ribbon(1);
        due.is("on", x.print(9), 2);
        x.put(0);
        due.is("a blank line goes without", x.print(1), 1);
        due.is("ribbon is not below 0", x.about(9), 0);
    }

    private static void pauses() {
        HeatLines x = Due.told(HEAD + "loo--");
        x.print(1);
        due.is("pause(0)", x.pause(0), HeatLines.BAD);
        due.is("pause(100)", x.pause(100), HeatLines.BAD);
        due.is("pause(-1)", x.pause(-1), HeatLines.BAD);
        due.is("pause(1)", x.pause(1), 42 + 42 + 7);
        due.is("heat(2)", x.heat(2), 7);
        due.is("pause(2)", x.pause(2), 11 + 11 + 2);
        due.is("pause(99)", x.pause(99), 3);
        due.is("last stays", x.about(7), 3);
        due.is("printed stays", x.about(14), 1);
        due.is("acts", x.about(17), 4);
        HeatLines slow = Due.told("H14100000000099999lo");
        slow.print(1);
        due.is("by 1 / 16", slow.pause(1), 85);
        due.is("by 1 / 16, again", slow.pause(1), 80);
    }

    private static void sets() {
        HeatLines x = Due.told(HEAD);
        due.is("set(-1, 5)", x.set(-1, 5), HeatLines.BAD);
        due.is("set(5, 0)", x.set(5, 0), HeatLines.BAD);
        due.is("set(0, 10)", x.set(0, 10), HeatLines.BAD);
        due.is("set(0, 6)", x.set(0, 6), HeatLines.BAD);
        due.is("set(0, 7)", x.set(0, 7), 9);
        due.is("set(1, 8)", x.set(1, 8), HeatLines.BAD);
        due.is("set(0, 9)", x.set(0, 9), 7);
        due.is("set(0, 10)", x.set(0, 10), HeatLines.BAD);
        due.is("set(0, 7)", x.set(0, 7), 9);
        due.is("set(2, 8)", x.set(2, 8), HeatLines.BAD);
        due.is("set(2, 2)", x.set(2, 2), HeatLines.BAD);
        due.is("set(2, 3)", x.set(2, 3), 5);
        due.is("set(4, -1)", x.set(4, -1), HeatLines.BAD);
        due.is("set(4, 4)", x.set(4, 4), HeatLines.BAD);
        due.is("set(4, 0)", x.set(4, 0), 1);
        due.is("set(4, 3)", x.set(4, 3), 0);
        due.is("set as it is", x.set(4, 3), 3);
        due.is("acts", x.about(17), 7);
        due.is("table(4)", x.table(4), 3);
        due.is("table(2)", x.table(2), 3);
    }

    private static void ribbons() {
        HeatLines x = Due.told(HEAD);
        due.is("ribbon(-1)", x.ribbon(-1), HeatLines.BAD);
        due.is("ribbon(1000)", x.ribbon(1000), HeatLines.BAD);
        due.is("ribbon(999)", x.ribbon(999), 99);
        due.is("ribbon(0)", x.ribbon(0), 999);
        due.is("ribbon(0) again", x.ribbon(0), 0);
        due.is("acts", x.about(17), 3);
    }

    /** The first so many of five acts, one of each kind. */
    private static HeatLines behindActs(int count) {
        HeatLines x = Due.told("H41209009000097531loo--loooo");
        for (int i = 0; i < count; i++) {
            switch (i) {
                case 0: x.put(9); break;
                case 1: x.print(2); break;
                case 2: x.pause(1); break;
                case 3: x.set(0, 8); break;
                default: x.ribbon(5); break;
            }
        }
        return x;
    }

    private static void undos() {
        // An object for each way back, so that none is used for more calls than the document speaks of.
        for (int left = 4; left >= 0; left--) {
            HeatLines x = behindActs(5);
            for (int i = 4; i >= left; i--) {
                due.is("undo", x.undo(), i);
            }
            due.unchanged("an act undone to " + left, Due.allOf(behindActs(left)), x);
        }
        HeatLines x = behindActs(0);
        due.is("undo of none", x.undo(), HeatLines.LATE);
        due.unchanged("undo of none", Due.allOf(behindActs(0)), x);
        x.write('l');
        x.see(0, 0, 0);
        x.seed(8);
        x.put(1);
        x.undo();
        due.is("the text is not undone", x.about(19), 29);
        due.is("what was seen is not undone", x.about(18), 1);
        due.is("the seed is not undone", x.seed(0), 8);
    }

    private static void actsAreForgotten() {
        HeatLines x = Due.told(HEAD);
        for (int i = 1; i <= 40; i++) {
            x.ribbon(i);
            due.is("acts", x.about(17), Math.min(14, i));
        }
        for (int i = 1; i <= 14; i++) {
            due.is("undo", x.undo(), 14 - i);
            due.is("ribbon back", x.about(9), 40 - i);
        }
        due.is("undo of what is forgotten", x.undo(), HeatLines.LATE);
        due.is("ribbon stays", x.about(9), 26);
        x.ribbon(500);
        due.is("undo goes on", x.undo(), 0);
        due.is("ribbon", x.about(9), 26);
    }

    private static void refusedIsNoAct() {
        HeatLines x = Due.told(HEAD + "lo---lo---lo---lo---lo---lo---lo---lo---");
        x.ribbon(3);
        String was = Due.allOf(x);
        x.put(1);
        x.put(16);
        x.print(0);
        x.pause(0);
        x.set(2, 9);
        x.ribbon(1000);
        due.unchanged("what is refused", was, x);
    }
}
