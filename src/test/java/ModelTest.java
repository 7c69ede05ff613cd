import java.util.Random;

/** All promises: runs of calls by chance (the same ones each time), answered by the class and by the model. */
public final class ModelTest {
    private static final Due due = new Due("ModelTest");
    private static final int RUNS = 1500;
    private static final int CALLS = 512;

    private final Random random;
    private final HeatLines x = new HeatLines();
    private final Model model = new Model();
    private final int run;
    private int calls;

    private ModelTest(int run) {
        this.run = run;
        random = new Random(run);
    }

    public static void main(String[] args) {
        for (int run = 0; run < RUNS; run++) {
            new ModelTest(run).play();
        }
        due.end();
    }

    private void play() {
        if (random.nextInt(5) > 0) {
            tellJob();
        }
        while (calls < CALLS) {
            call();
        }
    }

    private void is(String call, long got, long want) {
        calls++;
        // A text told at the end of a run goes beyond the last call that the document speaks of.
        if (calls <= CALLS) {
            due.is("run " + run + ", call " + calls + ": " + call, got, want);
        }
    }

    /** A number of 0 .. most, now and then just beyond it, or far. */
    private int about(int most) {
        int kind = random.nextInt(30);
        if (kind == 0) {
            return -1 - random.nextInt(2);
        }
        if (kind == 1) {
            return most + 1 + random.nextInt(2);
        }
        if (kind == 2 && random.nextInt(4) == 0) {
            return random.nextInt();
        }
        return random.nextInt(most + 1);
    }

    private int dot() {
        return about(Math.max(0, model.about(0) - 1));
    }

    private void write(int letter) {
        is("write(" + letter + ")", x.write(letter), model.write(letter));
    }

    private void tellJob() {
        is("wipe()", x.wipe(), model.wipe());
        String job = jobByChance();
        for (int i = 0; i < job.length(); i++) {
            write(job.charAt(i));
        }
        is("fault()", x.fault(), model.fault());
        is("job()", x.job(), model.job());
    }

    private String jobByChance() {
        int n = random.nextInt(3) == 0 ? 8 : 1 + random.nextInt(8);
        int low = random.nextInt(150);
        int high = low + random.nextInt(150) - (random.nextInt(10) == 0 ? Math.min(low, 20) : 0);
        StringBuilder job = new StringBuilder("H").append(n).append(1 + random.nextInt(4));
        job.append(1 + random.nextInt(8));
        job.append(String.format("%03d%03d%03d", low, high, random.nextInt(random.nextInt(4) == 0 ? 1000 : 60)));
        int figure = 9;
        for (int i = 0; i < 5; i++) {
            figure -= random.nextInt(1 + Math.min(3, figure));
            job.append(figure);
        }
        int lines = random.nextInt(9);
        for (int i = 0; i < lines; i++) {
            job.append('l');
            boolean blank = random.nextInt(5) == 0;
            for (int d = 0; d < n; d++) {
                job.append(!blank && random.nextInt(3) > 0 ? 'o' : '-');
            }
        }
        if (random.nextInt(8) == 0) {
            job.setCharAt(random.nextInt(job.length()), "H0123456789lo-xL \u00ff".charAt(random.nextInt(18)));
        }
        if (random.nextInt(8) == 0) {
            job.setLength(random.nextInt(job.length()));
        }
        return job.toString();
    }

    private void call() {
        int kind = random.nextInt(100);
        if (kind < 2) {
            callText();
        } else if (kind < 48) {
            callAct();
        } else if (kind < 70) {
            callLook();
        } else if (kind < 85) {
            callAsked();
        } else {
            callRest();
        }
    }

    private void callText() {
        switch (random.nextInt(4)) {
            case 0: tellJob(); break;
            case 1: write(about(255)); break;
            case 2: write("lo-".charAt(random.nextInt(3))); break;
            default: is("job()", x.job(), model.job()); break;
        }
        is("fault()", x.fault(), model.fault());
    }

    private void callAct() {
        int a = 0;
        switch (random.nextInt(9)) {
            case 0: case 1: case 2:
                a = about((1 << model.about(0)) - 1);
                is("put(" + a + ")", x.put(a), model.put(a));
                break;
            case 3: case 4:
                a = random.nextBoolean() ? 1 : about(9);
                is("print(" + a + ")", x.print(a), model.print(a));
                break;
            case 5:
                a = random.nextBoolean() ? 1 + random.nextInt(4) : about(99);
                is("pause(" + a + ")", x.pause(a), model.pause(a));
                break;
            case 6:
                a = about(4);
                int v = about(9);
                is("set(" + a + ", " + v + ")", x.set(a, v), model.set(a, v));
                break;
            case 7:
                a = random.nextBoolean() ? random.nextInt(4) : about(999);
                is("ribbon(" + a + ")", x.ribbon(a), model.ribbon(a));
                break;
            default:
                is("undo()", x.undo(), model.undo());
                break;
        }
    }

    private void callLook() {
        int a = 0;
        switch (random.nextInt(4)) {
            case 0:
                a = dot();
                is("heat(" + a + ")", x.heat(a), model.heat(a));
                break;
            case 1:
                a = about(4);
                is("table(" + a + ")", x.table(a), model.table(a));
                break;
            case 2:
                a = about(7);
                int what = about(3);
                is("line(" + a + ", " + what + ")", x.line(a, what), model.line(a, what));
                break;
            default:
                a = about(19);
                is("about(" + a + ")", x.about(a), model.about(a));
                break;
        }
    }

    private void callAsked() {
        int a = 0;
        int b = 0;
        switch (random.nextInt(3)) {
            case 0:
                a = about(9);
                b = dot();
                is("ahead(" + a + ", " + b + ")", x.ahead(a, b), model.ahead(a, b));
                break;
            case 1:
                a = about(4);
                is("fit(" + a + ")", x.fit(a), model.fit(a));
                break;
            default:
                a = 1 + random.nextInt(4);
                long row = rowByChance(a);
                a = random.nextInt(20) == 0 ? about(4) : a;
                is("judge(" + a + ", " + row + ")", x.judge(a, row), model.judge(a, row));
                break;
        }
    }

    private long rowByChance(int n) {
        if (random.nextInt(30) == 0) {
            return random.nextLong();
        }
        long row = 0;
        for (int i = 0; i < n; i++) {
            row = row * 10000 + doingByChance();
        }
        return row;
    }

    private int doingByChance() {
        switch (random.nextInt(8)) {
            case 0: return 1000 + random.nextInt(1 << model.about(0));
            case 1: return 2001 + random.nextInt(3);
            case 2: return 3000 + random.nextInt(100);
            case 3: return 4000 + Math.min(999, model.about(10) + random.nextInt(2) * random.nextInt(8));
            case 4: return 5000 + 100 * random.nextInt(model.about(0) + 1) + random.nextInt(2);
            case 5: return 6000 + 10 * random.nextInt(6) + random.nextInt(10);
            case 6: return 4000 + model.about(10);
            default: return random.nextInt(10000);
        }
    }

    private void callRest() {
        switch (random.nextInt(5)) {
            case 0: case 1: callSeen(); break;
            case 2: callShares(); break;
            case 3: callSeed(); break;
            default: callSlots(); break;
        }
    }

    private void callSeen() {
        int kind = random.nextInt(12);
        if (kind == 0) {
            is("unsee()", x.unsee(), model.unsee());
        } else if (kind < 6) {
            int dot = dot();
            int n = about(8);
            int v = random.nextBoolean() ? Math.max(0, model.ahead(n, dot)) : about(999);
            is("see(" + dot + ", " + n + ", " + v + ")", x.see(dot, n, v), model.see(dot, n, v));
        }
        is("which()", x.which(), model.which());
    }

    private void callShares() {
        boolean upper = random.nextBoolean();
        if (random.nextBoolean()) {
            int dot = dot();
            is("share(" + dot + ", " + upper + ")", x.share(dot, upper), model.share(dot, upper));
        } else {
            int v = random.nextInt(4) == 0 ? about(64) : random.nextInt(20);
            int tenths = about(10);
            is("chance(" + v + ", " + tenths + ", " + upper + ")", x.chance(v, tenths, upper),
                model.chance(v, tenths, upper));
        }
    }

    private void callSeed() {
        if (random.nextInt(4) == 0) {
            long v = random.nextLong();
            is("seed(" + v + ")", x.seed(v), model.seed(v));
        } else {
            int m = about(20);
            is("drawn(" + m + ")", x.drawn(m), model.drawn(m));
        }
    }

    private void callSlots() {
        int slot = about(1);
        if (random.nextBoolean()) {
            is("keep(" + slot + ")", x.keep(slot), model.keep(slot));
        } else {
            is("again(" + slot + ")", x.again(slot), model.again(slot));
        }
    }
}
