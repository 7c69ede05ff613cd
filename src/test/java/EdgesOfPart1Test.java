/** Part 1 of the document, sentence by sentence: ranges, what is at first, the text and the job. */
public final class EdgesOfPart1Test {
    private static final Due due = new Due("EdgesOfPart1Test");
    private static final int NONE = HeatLines.NONE;

    public static void main(String[] args) {
        dots();
        heats();
        cool();
        power();
        lowHighGhost();
        tableFigures();
        tableAtFirst();
        ribbonRange();
        queue();
        lastAndBefore();
        counted();
        textLength();
        headOfAJob();
        linesOfAJob();
        signsOfALine();
        withoutBlanks();
        firstFault();
        lengthSetAside();
        onlyNotAtItsEnd();
        noFault();
        whenTheJobIsTold();
        due.end();
    }

    private static void dots() {
        due.says("DOTS are 0 .. n less 1 (n is 1 .. 8; 1 at first)");
        due.is("dots at first", new HeatLines().about(0), 1);
        due.is("dot 0 at first", new HeatLines().heat(0), 0);
        due.is("dot 1 at first", new HeatLines().heat(1), HeatLines.UNKNOWN);
        for (int n = 1; n <= 8; n++) {
            HeatLines x = Jobs.of(n).told();
            due.is("dots of " + n, x.about(0), n);
            due.is("dot -1 of " + n, x.heat(-1), HeatLines.UNKNOWN);
            due.is("dot 0 of " + n, x.heat(0), 0);
            due.is("the last dot of " + n, x.heat(n - 1), 0);
            due.is("one dot more than " + n, x.heat(n), HeatLines.UNKNOWN);
        }
        due.is("no dots", Jobs.faultOf(Jobs.of(0).text()), 1);
        due.is("nine dots", Jobs.faultOf(Jobs.of(9).text()), 1);
    }

    /** Three dots, the middle one so hot that more heat changes nothing. */
    private static HeatLines hottest(String table) {
        HeatLines x = Jobs.of(3).cool(4).table("99999").told();
        for (int i = 0; i < 40; i++) {
            x.put(7);
            x.print(1);
        }
        for (int i = 4; i >= 0; i--) {
            x.set(i, table.charAt(i) - '0');
        }
        return x;
    }

    private static void heats() {
        due.says("each with a HEAT (0 .. 999; 0 at first); each HEAT is held to 999 behind all that");
        due.is("heat at first", new HeatLines().heat(0), 0);
        HeatLines x = hottest("99999");
        due.is("the hottest", x.heat(1), 999);
        x.put(7);
        due.is("the hottest, ahead", x.ahead(1, 1), 999);
        x.print(1);
        due.is("the hottest once more", x.heat(1), 999);
        // A line of the middle dot alone: 999 cools to 937, and 60 or 70 come.
        HeatLines below = hottest("66666");
        below.put(2);
        below.print(1);
        due.is("937 and 60", below.heat(1), 997);
        HeatLines beyond = hottest("77777");
        beyond.put(2);
        beyond.print(1);
        due.is("937 and 70", beyond.heat(1), 999);
        HeatLines sides = Jobs.of(8).cool(4).told();
        for (int i = 0; i < 60; i++) {
            sides.put(255);
            sides.print(1);
        }
        for (int d = 0; d < 8; d++) {
            due.is("heat of eight: " + d, sides.heat(d), 999);
        }
    }

    private static void cool() {
        due.says("COOL (1 .. 4; 1 at first)");
        HeatLines first = new HeatLines();
        due.is("cool at first", first.about(1), 1);
        first.set(0, 9);
        first.ribbon(1);
        first.put(1);
        first.print(1);
        due.is("90 cooled by the cool at first", first.pause(1), 45);
        int[] left = {45, 68, 79, 85};
        for (int c = 1; c <= 4; c++) {
            HeatLines x = Jobs.of(1).cool(c).lines(1).told();
            due.is("cool of " + c, x.about(1), c);
            x.print(1);
            due.is("90 cooled by " + c, x.pause(1), left[c - 1]);
        }
        due.is("cool 0", Jobs.faultOf(Jobs.of(1).cool(0).text()), 2);
        due.is("cool 5", Jobs.faultOf(Jobs.of(1).cool(5).text()), 2);
    }

    private static void power() {
        due.says("POWER (1 .. 8; 1 at first)");
        due.is("power at first", new HeatLines().about(2), 1);
        int[] times = {72, 36, 27, 18, 18, 18, 18, 9};
        for (int p = 1; p <= 8; p++) {
            HeatLines x = Jobs.of(8).power(p).lines(255).told();
            due.is("power of " + p, x.about(2), p);
            due.is("time of eight by " + p, x.line(0, 1), times[p - 1]);
        }
        due.is("power 0", Jobs.faultOf(Jobs.of(1).power(0).text()), 3);
        due.is("power 9", Jobs.faultOf(Jobs.of(1).power(9).text()), 3);
    }

    private static void lowHighGhost() {
        due.says("LOW, HIGH, GHOST (0 .. 999 each; 0 at first)");
        for (int what = 3; what <= 5; what++) {
            due.is("at first: about(" + what + ")", new HeatLines().about(what), 0);
        }
        int[][] heats = {{0, 0, 0}, {999, 999, 999}, {999, 0, 0}, {0, 999, 0}, {0, 0, 999}, {1, 20, 300}};
        for (int[] h : heats) {
            HeatLines x = Jobs.of(1).low(h[0]).high(h[1]).ghost(h[2]).told();
            for (int i = 0; i < 3; i++) {
                due.is("about(" + (3 + i) + ")", x.about(3 + i), h[i]);
            }
        }
        HeatLines first = new HeatLines();
        first.ribbon(3);
        first.put(1);
        first.print(1);
        due.is("0 is right by what is at first", first.about(10), 1);
        first.set(0, 1);
        first.put(0);
        first.put(0);
        first.put(1);
        first.print(3);
        due.is("10 is dark by what is at first", first.about(12), 1);
        first.put(0);
        first.print(1);
        due.is("5 is a ghost by what is at first", first.about(13), 1);
    }

    private static void tableFigures() {
        due.says("THE TABLE of five figures t0 .. t4 (0 .. 9, each no more than the one ahead of it)");
        String[] right = {"00000", "99999", "90000", "99990", "98765", "43210", "55544"};
        for (String table : right) {
            HeatLines x = Jobs.of(1).table(table).told();
            for (int i = 0; i < 5; i++) {
                due.is("table(" + i + ") of " + table, x.table(i), table.charAt(i) - '0');
            }
        }
        for (int i = 1; i < 5; i++) {
            char[] table = "55555".toCharArray();
            table[i] = '6';
            due.is("one more at " + i, Jobs.faultOf(Jobs.of(1).table(new String(table)).text()), 13 + i);
            table[i] = '4';
            int want = i == 4 ? NONE : 14 + i;
            due.is("one less at " + i, Jobs.faultOf(Jobs.of(1).table(new String(table)).text()), want);
        }
    }

    private static void tableAtFirst() {
        due.says("THE TABLE .. 0 at first");
        HeatLines x = new HeatLines();
        for (int i = 0; i < 5; i++) {
            due.is("table(" + i + ") at first", x.table(i), 0);
        }
        x.ribbon(1);
        x.put(1);
        x.print(1);
        due.is("what is printed by it stays cold", x.heat(0), 0);
    }

    private static void ribbonRange() {
        due.says("RIBBON (0 .. 999; 0 at first)");
        HeatLines x = new HeatLines();
        due.is("ribbon at first", x.about(9), 0);
        x.put(1);
        due.is("nothing is printed by it", x.print(1), 0);
        due.is("ribbon(999)", x.ribbon(999), 0);
        due.is("a line by 999", x.print(1), 1);
        due.is("one less", x.about(9), 998);
        due.is("ribbon(0)", x.ribbon(0), 998);
        due.is("ribbon(1000)", x.ribbon(1000), HeatLines.BAD);
        due.is("ribbon(-1)", x.ribbon(-1), HeatLines.BAD);
        due.is("ribbon", x.about(9), 0);
    }

    private static void queue() {
        due.says("THE QUEUE is a row of LINES (never more than 8; none at first)");
        HeatLines x = new HeatLines();
        due.is("queue at first", x.about(6), 0);
        due.is("no line at first", x.line(0, 0), NONE);
        for (int i = 1; i <= 8; i++) {
            due.is("put", x.put(i % 2), i);
        }
        due.is("a ninth", x.put(1), HeatLines.FULL);
        due.is("queue", x.about(6), 8);
        due.is("the eighth", x.line(7, 0), 0);
        due.is("no ninth", x.line(8, 0), NONE);
        x.ribbon(1);
        due.is("one goes", x.print(1), 1);
        due.is("one comes", x.put(1), 8);
        due.is("it is the last", x.line(7, 0), 1);
        due.is("and again a ninth", x.put(0), HeatLines.FULL);
        HeatLines full = Jobs.of(8).lines(1, 2, 4, 8, 16, 32, 64, 128).told();
        for (int i = 0; i < 8; i++) {
            due.is("line " + i + " of a full job", full.line(i, 0), 1 << i);
        }
        due.is("a ninth of a full job", full.put(1), HeatLines.FULL);
    }

    private static void lastAndBefore() {
        due.says("LAST is the LINE that was printed last, BEFORE the one ahead of that (no DOTS at first, each)");
        HeatLines first = new HeatLines();
        due.is("last at first", first.about(7), 0);
        due.is("before at first", first.about(8), 0);
        HeatLines x = Jobs.of(8).lines(255, 128, 0).told();
        int[][] want = {{255, 0}, {128, 255}, {0, 128}};
        for (int[] w : want) {
            x.print(1);
            due.is("last", x.about(7), w[0]);
            due.is("before", x.about(8), w[1]);
        }
    }

    private static void counted() {
        due.says("Counted are, 0 at first: RIGHT, PALE, DARK, GHOSTS, PRINTED");
        for (int what = 10; what <= 14; what++) {
            due.is("at first: about(" + what + ")", new HeatLines().about(what), 0);
        }
    }

    private static void textLength() {
        due.says("THE TEXT is letters (never more than 99)");
        HeatLines x = new HeatLines();
        due.is("letters at first", x.about(19), 0);
        for (int i = 1; i <= 98; i++) {
            x.write('l');
        }
        due.is("a 99th", x.write('l'), 99);
        due.is("a hundredth", x.write('l'), HeatLines.FULL);
        due.is("letters", x.about(19), 99);
        due.is("wiped", x.wipe(), 99);
        due.is("a first", x.write('H'), 1);
    }

    /** The first and the last letter that may stand at a place, and those beside them, which may not. */
    private static void lettersAt(int place, char first, char last) {
        String job = Jobs.of(2).table("99999").text();
        for (int letter = 0; letter <= 255; letter++) {
            boolean fits = letter >= first && letter <= last;
            String text = job.substring(0, place) + (char) letter;
            int want = !fits ? place : place == 17 ? NONE : place + 1;
            due.is("letter " + letter + " at " + place, Jobs.faultOf(text), want);
        }
    }

    private static void headOfAJob() {
        due.says("H, n (a figure), COOL (1 .. 4), POWER (1 .. 8), LOW, HIGH, GHOST (three figures each), "
            + "THE TABLE (five figures)");
        lettersAt(0, 'H', 'H');
        lettersAt(1, '1', '8');
        lettersAt(2, '1', '4');
        lettersAt(3, '1', '8');
        for (int place = 4; place < 18; place++) {
            lettersAt(place, '0', '9');
        }
    }

    private static void linesOfAJob() {
        due.says("then LINES for THE QUEUE, none or more; so a ninth l");
        for (int n = 1; n <= 8; n++) {
            for (int k = 0; k <= 8; k++) {
                HeatLines x = new HeatLines();
                Due.writeText(x, Jobs.of(n).lines(Jobs.same(1, k)).text());
                due.is(k + " lines of " + n, x.fault(), NONE);
                due.is(k + " lines told", x.job(), k);
            }
            String eight = Jobs.of(n).lines(Jobs.same(1, 8)).text();
            due.is("a ninth l of " + n, Jobs.faultOf(eight + "l"), 18 + 8 * (n + 1));
            due.is("no l, but a sign", Jobs.faultOf(eight + "o"), 18 + 8 * (n + 1));
        }
    }

    private static void signsOfALine() {
        due.says("each l, then n signs, DOT 0 first: o (black) or - (not)");
        for (int n = 1; n <= 8; n++) {
            String head = Jobs.of(n).text();
            due.is("one sign less than " + n, Jobs.faultOf(head + "l" + "o".repeat(n - 1)), 18 + n);
            due.is("an l too soon", Jobs.faultOf(head + "l" + "-".repeat(n - 1) + "l"), 18 + n);
            due.is(n + " signs", Jobs.faultOf(head + "l" + "-".repeat(n)), NONE);
            due.is("one sign more than " + n, Jobs.faultOf(head + "l" + "-".repeat(n + 1)), 19 + n);
            HeatLines low = Due.told(head + "lo" + "-".repeat(n - 1));
            due.is("dot 0 is the first", low.line(0, 0), 1);
            HeatLines top = Due.told(head + "l" + "-".repeat(n - 1) + "o");
            due.is("the last dot is the last", top.line(0, 0), 1 << n - 1);
        }
        String head = Jobs.of(1).text() + "l";
        for (int letter = 0; letter <= 255; letter++) {
            int want = letter == 'o' || letter == '-' ? NONE : 19;
            due.is("sign " + letter, Jobs.faultOf(head + (char) letter), want);
            want = letter == 'l' ? 19 : 18;
            due.is("ahead of signs " + letter, Jobs.faultOf(Jobs.of(1).text() + (char) letter), want);
        }
    }

    private static void withoutBlanks() {
        due.says("(Without blanks.)");
        String job = Jobs.of(2).lines(1, 2).text();
        for (int place = 0; place <= job.length(); place++) {
            String text = job.substring(0, place) + " " + job.substring(place);
            due.is("a blank at " + place, Jobs.faultOf(text), place);
        }
    }

    private static void firstFault() {
        due.says("FAULT: the place (from 0) of the first letter by which THE TEXT can be no JOB, "
            + "whatever came behind it");
        String job = Jobs.of(2).lines(1, 2).text();
        for (int place = 0; place < job.length(); place++) {
            String broken = job.substring(0, place) + "?";
            due.is("broken at its end " + place, Jobs.faultOf(broken), place);
            due.is("broken at " + place, Jobs.faultOf(broken + job.substring(place + 1)), place);
            due.is("broken twice, at " + place, Jobs.faultOf(broken + "?" + job), place);
        }
    }

    private static void lengthSetAside() {
        due.says("(its length set aside; so a ninth l, a figure of THE TABLE that is more than the one ahead of it)");
        String longest = Jobs.of(8).lines(Jobs.same(170, 8)).text();
        due.is("the longest job", longest.length(), 90);
        due.is("fault of it", Jobs.faultOf(longest), NONE);
        for (int more = 1; more <= 9; more++) {
            due.is("letters beyond it", Jobs.faultOf(longest + "l--------".substring(0, more)), 90);
        }
        HeatLines x = new HeatLines();
        Due.writeText(x, Jobs.of(1).text() + "lo".repeat(50));
        due.is("letters", x.about(19), 99);
        due.is("fault of 99 letters", x.fault(), 34);
        HeatLines y = new HeatLines();
        Due.writeText(y, "H" + "0".repeat(98));
        due.is("fault of 99 letters at 1", y.fault(), 1);
        due.is("more than the one ahead", Jobs.faultOf("H111000000000" + "01"), 14);
    }

    private static void onlyNotAtItsEnd() {
        due.says("FAULT: its length, if it is only not at its end");
        String job = Jobs.of(3).lines(5, 2).text();
        for (int length = 0; length < job.length(); length++) {
            boolean ended = length == 18 || length == 22;
            due.is("the first " + length, Jobs.faultOf(job.substring(0, length)), ended ? NONE : length);
        }
        String longest = Jobs.of(8).lines(Jobs.same(255, 8)).text();
        due.is("all but the last letter", Jobs.faultOf(longest.substring(0, 89)), 89);
    }

    private static void noFault() {
        due.says("NONE: none");
        due.is("the least job", Jobs.faultOf("H11100000000000000"), NONE);
        due.is("the greatest head", Jobs.faultOf("H84899999999999999"), NONE);
        due.is("the empty text", Jobs.faultOf(""), 0);
        due.is("low above high", Jobs.faultOf(Jobs.of(1).low(999).high(0).text()), NONE);
    }

    private static void whenTheJobIsTold() {
        due.says("When THE JOB is told, all HEAT is 0, LAST, BEFORE have no DOTS, RIBBON is 99, "
            + "nothing is counted yet");
        HeatLines x = Jobs.of(8).low(85).high(89).ghost(10).table("97531").lines(255, 129, 85).told();
        x.print(3);
        x.ribbon(500);
        for (int what = 7; what <= 14; what++) {
            due.isTrue("about(" + what + ") was more than 0", x.about(what) > 0);
        }
        due.is("job once more", x.job(), 3);
        for (int d = 0; d < 8; d++) {
            due.is("heat " + d, x.heat(d), 0);
        }
        int[] want = {0, 0, 99, 0, 0, 0, 0, 0};
        for (int i = 0; i < 8; i++) {
            due.is("about(" + (7 + i) + ")", x.about(7 + i), want[i]);
        }
    }
}
