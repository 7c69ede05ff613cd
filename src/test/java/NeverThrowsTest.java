import java.util.Random;

/** No call throws or fails to end, for any arguments in any state, not even behind the 512th call. */
public final class NeverThrowsTest {
    private static final Due due = new Due("NeverThrowsTest");
    private static final int RUNS = 60;
    private static final int CALLS = 5000;
    private static final int[] NUMBERS = {Integer.MIN_VALUE, Integer.MIN_VALUE + 1, -65536, -9, -2, -1, 0, 1, 2, 3, 4,
        5, 6, 7, 8, 9, 10, 15, 20, 31, 32, 33, 60, 64, 99, 100, 127, 128, 255, 256, 999, 1000, 65536,
        Integer.MAX_VALUE - 1, Integer.MAX_VALUE};
    private static final long[] ROWS = {Long.MIN_VALUE, -1, 0, 1, 9999, 10000, 1001200130012001L, 2009200920092009L,
        5900500060996000L, 9999999999999999L, 10000000000000000L, Long.MAX_VALUE};

    private final Random random;
    private final HeatLines x = new HeatLines();

    private NeverThrowsTest(int run) {
        random = new Random(run);
    }

    public static void main(String[] args) {
        for (int run = 0; run < RUNS; run++) {
            due.isTrue("run " + run + " ends without a throw", new NeverThrowsTest(run).ends());
        }
        due.end();
    }

    private boolean ends() {
        try {
            for (int i = 0; i < CALLS; i++) {
                if (i % 500 == 0) {
                    Due.writeText(x, jobByChance());
                    x.job();
                }
                call();
            }
            return true;
        } catch (RuntimeException e) {
            e.printStackTrace(System.out);
            return false;
        }
    }

    private String jobByChance() {
        int n = 1 + random.nextInt(8);
        int[] lines = new int[random.nextInt(9)];
        for (int i = 0; i < lines.length; i++) {
            lines[i] = random.nextInt(1 << n);
        }
        return Jobs.of(n).cool(1 + random.nextInt(4)).power(1 + random.nextInt(8)).low(random.nextInt(1000))
            .high(random.nextInt(1000)).ghost(random.nextInt(1000)).lines(lines).text();
    }

    private int number() {
        return random.nextInt(4) == 0 ? random.nextInt() : NUMBERS[random.nextInt(NUMBERS.length)];
    }

    private long row() {
        return random.nextInt(4) == 0 ? random.nextLong() : ROWS[random.nextInt(ROWS.length)];
    }

    private void call() {
        int kind = random.nextInt(26);
        if (kind < 13) {
            callJobOrAct(kind);
        } else {
            callOther(kind);
        }
    }

    private void callJobOrAct(int kind) {
        switch (kind) {
            case 0: x.write(number()); break;
            case 1: x.fault(); break;
            case 2: x.about(number()); break;
            case 3: x.heat(number()); break;
            case 4: x.table(number()); break;
            case 5: x.line(number(), number()); break;
            case 6: case 7: x.put(number()); break;
            case 8: x.print(number()); break;
            case 9: x.pause(number()); break;
            case 10: x.set(number(), number()); break;
            case 11: x.ribbon(number()); break;
            default: x.undo(); break;
        }
    }

    private void callOther(int kind) {
        switch (kind) {
            case 13: x.ahead(number(), number()); break;
            case 14: x.fit(number()); break;
            case 15: x.judge(number(), row()); break;
            case 16: x.see(number(), number(), number()); break;
            case 17: if (random.nextInt(5) == 0) x.unsee(); break;
            case 18: x.which(); break;
            case 19: x.share(number(), random.nextBoolean()); break;
            case 20: x.chance(number(), number(), random.nextBoolean()); break;
            case 21: x.seed(row()); break;
            case 22: x.drawn(number()); break;
            case 23: x.keep(number()); break;
            case 24: x.again(number()); break;
            default: if (random.nextInt(20) == 0) x.wipe(); x.job(); break;
        }
    }
}
