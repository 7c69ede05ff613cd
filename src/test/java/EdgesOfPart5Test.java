import java.util.ArrayList;
import java.util.List;
import java.util.function.Consumer;
import java.util.function.Function;
import java.util.function.ToIntFunction;

/** Part 5 of the document, sentence by sentence: refusals, their order, and that they change nothing. */
public final class EdgesOfPart5Test {
    private static final Due due = new Due("EdgesOfPart5Test");
    private static final int UNKNOWN = HeatLines.UNKNOWN;
    private static final int BAD = HeatLines.BAD;
    private static final int LATE = HeatLines.LATE;
    private static final int FULL = HeatLines.FULL;
    private static final int MIN = Integer.MIN_VALUE;
    private static final int MAX = Integer.MAX_VALUE;

    private record Call(String name, int answer, ToIntFunction<HeatLines> on) {
    }

    private final List<Call> calls = new ArrayList<>();

    public static void main(String[] args) {
        constants();
        order();
        refusedWhenNew();
        refusedMidway();
        refusedWhenFull();
        askedChangesNothing();
        fractions();
        sets();
        due.end();
    }

    private static void constants() {
        due.says("UNKNOWN -1 .., BAD -2, LATE -3, FULL -4 .. NONE is -9");
        due.is("UNKNOWN", UNKNOWN, -1);
        due.is("BAD", BAD, -2);
        due.is("LATE", LATE, -3);
        due.is("FULL", FULL, -4);
        due.is("NONE", HeatLines.NONE, -9);
    }

    private static void order() {
        due.says("REFUSALS, of several the first that a call names (in just that row)");
        HeatLines x = fullOne();
        due.is("write: BAD, FULL", x.write(256), BAD);
        due.is("write: FULL", x.write(255), FULL);
        due.is("put: BAD, FULL", x.put(256), BAD);
        due.is("put: FULL", x.put(255), FULL);
        due.is("ahead: UNKNOWN, BAD", x.ahead(10, 8), UNKNOWN);
        due.is("ahead: BAD", x.ahead(10, 7), BAD);
        due.is("see: UNKNOWN, BAD, FULL", x.see(8, 9, 1000), UNKNOWN);
        due.is("see: UNKNOWN, FULL", x.see(8, 8, 999), UNKNOWN);
        due.is("see: BAD by n, FULL", x.see(7, 9, 999), BAD);
        due.is("see: BAD by v, FULL", x.see(7, 8, 1000), BAD);
        due.is("see: FULL", x.see(7, 8, 999), FULL);
        due.is("line: BAD, where there is no line", x.line(8, 4), BAD);
        due.is("line: no line", x.line(8, 3), HeatLines.NONE);
        HeatLines first = new HeatLines();
        due.is("again: UNKNOWN, LATE", first.again(2), UNKNOWN);
        due.is("again: LATE", first.again(1), LATE);
    }

    private static HeatLines fullOne() {
        HeatLines x = new HeatLines();
        fillUp(x);
        return x;
    }

    /** Eight dots and lines, 99 letters, 14 acts, six seen, both slots kept: nothing more goes in. */
    private static void fillUp(HeatLines x) {
        Due.writeText(x, Jobs.of(8).cool(2).power(3).low(40).high(110).ghost(9).table("97531")
            .lines(255, 129, 60, 0, 85, 170, 7, 254).text());
        x.job();
        for (int i = 0; i < 9; i++) {
            x.write('l');
        }
        x.print(1);
        x.keep(0);
        x.put(3);
        for (int i = 0; i < 5; i++) {
            x.ribbon(50 + i);
            x.set(2, 4 + i % 3);
            x.pause(1);
        }
        x.print(2);
        x.put(200);
        x.keep(1);
        x.put(9);
        for (int d = 0; d < 6; d++) {
            x.see(d, d, 10 * d);
        }
        x.seed(77);
    }

    /** Four dots, some of everything, a text with a fault, slot 0 alone kept. */
    private static void fillSome(HeatLines x) {
        Due.writeText(x, Jobs.of(4).low(50).high(90).ghost(5).table("97531").lines(15, 9, 2, 6).text());
        x.job();
        x.write('l');
        x.print(2);
        x.keep(0);
        x.put(5);
        x.pause(2);
        x.see(1, 1, 5);
        x.see(3, 0, 0);
        x.seed(-5);
    }

    private void add(String name, int answer, ToIntFunction<HeatLines> on) {
        calls.add(new Call(name, answer, on));
    }

    private void addNumbers(String name, int answer, HeatLinesCall on, int... numbers) {
        for (int number : numbers) {
            add(name + " by " + number, answer, x -> on.by(x, number));
        }
    }

    private interface HeatLinesCall {
        int by(HeatLines x, int number);
    }

    /** What is refused in any state of so many dots. */
    private void addRefused(int n) {
        addNumbers("write", BAD, HeatLines::write, MIN, -1, 256, MAX);
        addNumbers("about", BAD, HeatLines::about, MIN, -1, 20, MAX);
        addNumbers("heat", UNKNOWN, HeatLines::heat, MIN, -1, n, MAX);
        addNumbers("table", BAD, HeatLines::table, MIN, -1, 5, MAX);
        addNumbers("line, what", BAD, (x, k) -> x.line(0, k), MIN, -1, 4, MAX);
        addNumbers("line, i", HeatLines.NONE, (x, k) -> x.line(k, 0), MIN, -1, 8, MAX);
        addNumbers("put", BAD, HeatLines::put, MIN, -1, 1 << n, 256, MAX);
        addNumbers("print", BAD, HeatLines::print, MIN, -1, 0, 10, MAX);
        addNumbers("pause", BAD, HeatLines::pause, MIN, -1, 0, 100, MAX);
        addNumbers("set, i", BAD, (x, k) -> x.set(k, 0), MIN, -1, 5, MAX);
        addNumbers("set t0", BAD, (x, k) -> x.set(0, k), MIN, -1, 10, MAX);
        addNumbers("set t4", BAD, (x, k) -> x.set(4, k), MIN, -1, 10, MAX);
        addNumbers("ribbon", BAD, HeatLines::ribbon, MIN, -1, 1000, MAX);
        addNumbers("ahead, dot", UNKNOWN, (x, k) -> x.ahead(1, k), MIN, -1, n, MAX);
        addNumbers("ahead, n", BAD, (x, k) -> x.ahead(k, 0), MIN, -1, 10, MAX);
        addNumbers("fit", BAD, HeatLines::fit, MIN, -1, 5, MAX);
        addNumbers("judge, n", BAD, (x, k) -> x.judge(k, 3001), MIN, -1, 0, 5, MAX);
        addNumbers("judge, row", BAD, (x, k) -> x.judge(1, k), MIN, -1, 10000, MAX);
        addNumbers("see, dot", UNKNOWN, (x, k) -> x.see(k, 0, 0), MIN, -1, n, MAX);
        addNumbers("see, n", BAD, (x, k) -> x.see(0, k, 0), MIN, -1, 9, MAX);
        addNumbers("see, v", BAD, (x, k) -> x.see(0, 0, k), MIN, -1, 1000, MAX);
        addNumbers("share", UNKNOWN, (x, k) -> x.share(k, true), MIN, -1, n, MAX);
        addNumbers("chance, v", BAD, (x, k) -> x.chance(k, 1, true), MIN, -1, 65, MAX);
        addNumbers("chance, x", BAD, (x, k) -> x.chance(1, k, false), MIN, -1, 11, MAX);
        addNumbers("drawn", BAD, HeatLines::drawn, MIN, -1, 0, 21, MAX);
        addNumbers("keep", UNKNOWN, HeatLines::keep, MIN, -1, 2, MAX);
        addNumbers("again", UNKNOWN, HeatLines::again, MIN, -1, 2, MAX);
        add("job", LATE, HeatLines::job);
    }

    private static void refusedWhenNew() {
        due.says("What is refused changes nothing (a new object)");
        EdgesOfPart5Test t = new EdgesOfPart5Test();
        t.addRefused(1);
        t.add("undo", LATE, HeatLines::undo);
        t.addNumbers("again", LATE, HeatLines::again, 0, 1);
        t.addNumbers("set above the one ahead", BAD, (x, k) -> x.set(k, 1), 1, 2, 3, 4);
        t.allChangeNothing(x -> { });
    }

    private static void refusedMidway() {
        due.says("What is refused changes nothing (midway)");
        EdgesOfPart5Test t = new EdgesOfPart5Test();
        t.addRefused(4);
        t.addNumbers("again", LATE, HeatLines::again, 1);
        t.addNumbers("set t1", BAD, (x, k) -> x.set(1, k), 4, 10);
        t.addNumbers("set t2", BAD, (x, k) -> x.set(2, k), 2, 8);
        t.allChangeNothing(EdgesOfPart5Test::fillSome);
    }

    private static void refusedWhenFull() {
        due.says("What is refused changes nothing (all is full)");
        HeatLines full = fullOne();
        due.is("letters", full.about(19), 99);
        due.is("lines", full.about(6), 8);
        due.is("acts", full.about(17), 14);
        due.is("seen", full.about(18), 6);
        EdgesOfPart5Test t = new EdgesOfPart5Test();
        t.addRefused(8);
        t.addNumbers("write", FULL, HeatLines::write, 0, 'l', 255);
        t.addNumbers("put", FULL, HeatLines::put, 0, 1, 255);
        t.addNumbers("see", FULL, (x, k) -> x.see(k, 0, 0), 0, 7);
        t.allChangeNothing(EdgesOfPart5Test::fillUp);
    }

    private static void askedChangesNothing() {
        due.says("In what follows nothing is changed. "
            + "AHEAD .. RUN .. FIT .. REST .. JUDGED .. WHICH .. SHARE .. CHANCE");
        List<Consumer<HeatLines>> states = List.of(x -> { }, EdgesOfPart5Test::fillSome, EdgesOfPart5Test::fillUp);
        for (Consumer<HeatLines> state : states) {
            EdgesOfPart5Test t = new EdgesOfPart5Test();
            for (int what = 0; what < 20; what++) {
                int number = what;
                t.addAsked(state, "about " + what, x -> x.about(number));
            }
            for (int what = 0; what < 4; what++) {
                int number = what;
                t.addAsked(state, "line " + what, x -> x.line(0, number));
            }
            for (long row : new long[] {1001200130012001L, 2001300160084009L, 3099200160405000L, 0}) {
                t.addAsked(state, "judge " + row, x -> x.judge(4, row));
            }
            for (int n = 0; n <= 9; n++) {
                int number = n;
                t.addAsked(state, "ahead " + n, x -> x.ahead(number, 0));
            }
            for (int i = 0; i < 5; i++) {
                int number = i;
                t.addAsked(state, "fit " + i, x -> x.fit(number));
            }
            t.addAsked(state, "fault", HeatLines::fault);
            t.addAsked(state, "heat", x -> x.heat(0));
            t.addAsked(state, "table", x -> x.table(0));
            t.addAsked(state, "which", HeatLines::which);
            t.addAsked(state, "share", x -> x.share(0, true));
            t.addAsked(state, "chance", x -> x.chance(1, 5, false));
            t.allChangeNothing(state);
        }
    }

    /** The answer that is due is that of another object in the same state. */
    private void addAsked(Consumer<HeatLines> state, String name, ToIntFunction<HeatLines> on) {
        HeatLines x = new HeatLines();
        state.accept(x);
        add(name, on.applyAsInt(x), on);
    }

    /** Each way of looking needs an object of its own, as it changes it. */
    private static final List<Function<HeatLines, String>> LOOKS = List.of(
        Due::allOf,
        EdgesOfPart5Test::lookBack,
        x -> x.again(0) + " " + Due.allOf(x),
        x -> x.again(1) + " " + Due.allOf(x),
        EdgesOfPart5Test::lookAtTheText,
        EdgesOfPart5Test::lookAtTheSeed,
        EdgesOfPart5Test::lookOn);

    private static String lookBack(HeatLines x) {
        StringBuilder all = new StringBuilder();
        for (int i = 0; i < 15; i++) {
            all.append(x.undo());
            for (int what = 6; what <= 14; what++) {
                all.append(' ').append(x.about(what));
            }
            for (int k = 0; k < 5; k++) {
                all.append(' ').append(x.table(k)).append(' ').append(x.heat(k));
            }
            all.append('\n');
        }
        return all.toString();
    }

    private static String lookAtTheText(HeatLines x) {
        StringBuilder all = new StringBuilder();
        all.append(x.write('-')).append(' ').append(x.fault()).append(' ');
        for (int i = 0; i < 3; i++) {
            all.append(x.write('o')).append(' ').append(x.fault()).append(' ');
        }
        return all.append(x.job()).append(' ').append(Due.allOf(x)).toString();
    }

    private static String lookAtTheSeed(HeatLines x) {
        return x.drawn(20) + " " + x.drawn(1) + " " + x.seed(1) + " " + x.drawn(20);
    }

    private static String lookOn(HeatLines x) {
        StringBuilder all = new StringBuilder();
        x.ribbon(99);
        for (int i = 0; i < 9; i++) {
            all.append(x.which()).append(' ').append(x.print(1)).append(' ').append(x.pause(1)).append(' ');
        }
        return all.append(x.unsee()).append(' ').append(x.which()).toString();
    }

    private void allChangeNothing(Consumer<HeatLines> state) {
        for (Function<HeatLines, String> look : LOOKS) {
            HeatLines untouched = new HeatLines();
            state.accept(untouched);
            String want = look.apply(untouched);
            for (Call call : calls) {
                HeatLines x = new HeatLines();
                state.accept(x);
                due.is(call.name, call.on.applyAsInt(x), call.answer);
                due.isTrue(call.name + " changes nothing", want.equals(look.apply(x)));
            }
        }
    }

    private static void fractions() {
        due.says("FRACTIONS are told above (upper = true; less than 0, if they are), below, in least terms");
        HeatLines zero = Jobs.of(8).lines(0).told();
        due.is("0 above", zero.share(0, true), 0);
        due.is("0 below", zero.share(0, false), 1);
        HeatLines less = Jobs.of(3).high(0).lines(7).told();
        due.is("less than 0 above", less.share(0, true), -5);
        due.is("less than 0 below", less.share(0, false), 6);
        HeatLines half = Jobs.of(4).low(90).table("90000").lines(1).told();
        due.is("5000 by 10000 above", half.chance(1, 5, true), 1);
        due.is("5000 by 10000 below", half.chance(1, 5, false), 2);
        due.is("10000 by 10000 above", half.chance(0, 5, true), 1);
        due.is("10000 by 10000 below", half.chance(0, 5, false), 1);
        due.is("0 by 10000 above", half.chance(2, 5, true), 0);
        due.is("0 by 10000 below", half.chance(2, 5, false), 1);
    }

    private static void sets() {
        due.says("Sets are told as bits");
        HeatLines x = Jobs.of(8).lines(129, 3).told();
        due.is("a line", x.line(0, 0), 129);
        x.print(2);
        due.is("last", x.about(7), 3);
        due.is("before", x.about(8), 129);
        due.is("which", x.which(), 255);
    }
}
