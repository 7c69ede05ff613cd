/** Writes jobs, so that a test names only what it is about. */
final class Jobs {
    private int dots = 1;
    private int cool = 1;
    private int power = 1;
    private int low;
    private int high = 999;
    private int ghost = 999;
    private String table = "99999";
    private final StringBuilder lines = new StringBuilder();

    private Jobs() {
    }

    /** A job of so many dots, whose dots are right at any heat and never ghosts, if nothing else is said. */
    static Jobs of(int dots) {
        Jobs job = new Jobs();
        job.dots = dots;
        return job;
    }

    Jobs cool(int figure) {
        cool = figure;
        return this;
    }

    Jobs power(int figure) {
        power = figure;
        return this;
    }

    Jobs low(int heat) {
        low = heat;
        return this;
    }

    Jobs high(int heat) {
        high = heat;
        return this;
    }

    Jobs ghost(int heat) {
        ghost = heat;
        return this;
    }

    Jobs table(String figures) {
        table = figures;
        return this;
    }

    Jobs lines(int... sets) {
        for (int w : sets) {
            lines.append('l');
            for (int d = 0; d < dots; d++) {
                lines.append((w >> d & 1) == 1 ? 'o' : '-');
            }
        }
        return this;
    }

    String text() {
        return String.format("H%d%d%d%03d%03d%03d%s%s", dots, cool, power, low, high, ghost, table, lines);
    }

    HeatLines told() {
        return Due.told(text());
    }

    static int faultOf(String text) {
        HeatLines x = new HeatLines();
        Due.writeText(x, text);
        return x.fault();
    }

    static int[] same(int w, int times) {
        int[] sets = new int[times];
        java.util.Arrays.fill(sets, w);
        return sets;
    }
}
