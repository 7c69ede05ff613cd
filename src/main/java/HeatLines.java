/** A print head of dots that are heated line by line; README.md says how to use it. */
public final class HeatLines {
    public static final int UNKNOWN = -1, BAD = -2, LATE = -3, FULL = -4, NONE = -9;

    private static final int MOST_DOTS = 8;
    private static final int MOST_LINES = 8;
    private static final int MOST_HEAT = 999;
    private static final int MOST_RIBBON = 999;
    private static final int MOST_LETTERS = 99;
    private static final int MOST_ACTS = 14;
    private static final int MOST_SEEN = 6;
    private static final int FIGURES = 5;
    private static final int SLOTS = 2;
    private static final int LONGEST_REST = 60;
    private static final int NEW_RIBBON = 99;
    private static final int NOBODY_DEAD = 0;
    private static final int[] FACTORIALS = {1, 1, 2, 6, 24, 120, 720, 5040, 40320};

    private final Text text = new Text();
    private final Head head = new Head();
    private final State now = new State();
    // What is only asked is played on these two, so that no call makes rows of its own.
    private final State trial = new State();
    private final State rested = new State();
    private final Run run = new Run();
    private final Acts acts = new Acts();
    private final Sights sights = new Sights();
    private final Slots slots = new Slots();
    private long seedNow;

    public HeatLines() {
    }

    // ---- the job

    public int write(int letter) {
        if (letter < 0 || letter > 255) {
            return BAD;
        }
        return text.append(letter) ? text.length : FULL;
    }

    public int wipe() {
        int was = text.length;
        text.length = 0;
        return was;
    }

    public int fault() {
        return text.firstFault();
    }

    public int job() {
        if (text.firstFault() != NONE) {
            return LATE;
        }
        text.tellHead(head);
        now.startAnew();
        text.tellTable(now);
        text.tellQueue(now);
        acts.forgetAll();
        slots.forgetAll();
        return now.queued;
    }

    public int about(int what) {
        switch (what) {
            case 0: return head.dots;
            case 1: return head.cool;
            case 2: return head.power;
            case 3: return head.low;
            case 4: return head.high;
            case 5: return head.ghost;
            case 6: return now.queued;
            case 7: return now.last;
            case 8: return now.before;
            case 9: return now.ribbon;
            case 10: return now.right;
            case 11: return now.pale;
            case 12: return now.dark;
            case 13: return now.ghosts;
            case 14: return now.printed;
            case 15: return ticks();
            case 16: return leastRest();
            case 17: return acts.count;
            case 18: return sights.count;
            case 19: return text.length;
            default: return BAD;
        }
    }

    public int heat(int dot) {
        return head.hasDot(dot) ? now.heats[dot] : UNKNOWN;
    }

    public int table(int i) {
        return isFigurePlace(i) ? now.figures[i] : BAD;
    }

    public int line(int i, int what) {
        if (what < 0 || what > 3) {
            return BAD;
        }
        if (i < 0 || i >= now.queued) {
            return NONE;
        }
        if (what == 0) {
            return now.queue[i];
        }
        run.plan(head, now);
        switch (what) {
            case 1: return run.times[i];
            case 2: return Run.mostAt(run.times[i]);
            default: return run.speeds[i];
        }
    }

    // ---- acts

    public int put(int w) {
        if (!head.hasDots(w)) {
            return BAD;
        }
        if (now.isFull()) {
            return FULL;
        }
        acts.remember(now);
        now.append(w);
        return now.queued;
    }

    public int print(int n) {
        if (n < 1 || n > 9) {
            return BAD;
        }
        acts.remember(now);
        return head.printSome(now, n, NOBODY_DEAD);
    }

    public int pause(int k) {
        if (!isPause(k)) {
            return BAD;
        }
        acts.remember(now);
        head.rest(now, k);
        return now.allHeat();
    }

    public int set(int i, int v) {
        if (!now.mayTell(i, v)) {
            return BAD;
        }
        acts.remember(now);
        int was = now.figures[i];
        now.figures[i] = v;
        return was;
    }

    public int ribbon(int v) {
        if (v < 0 || v > MOST_RIBBON) {
            return BAD;
        }
        acts.remember(now);
        int was = now.ribbon;
        now.ribbon = v;
        return was;
    }

    public int undo() {
        return acts.takeBack(now) ? acts.count : LATE;
    }

    // ---- asked

    public int ahead(int n, int dot) {
        if (!head.hasDot(dot)) {
            return UNKNOWN;
        }
        if (n < 0 || n > 9) {
            return BAD;
        }
        return heatBehind(n, dot, NOBODY_DEAD);
    }

    public int fit(int i) {
        if (!isFigurePlace(i)) {
            return BAD;
        }
        int best = now.figures[i];
        int mostRight = -1;
        for (int v = 0; v <= 9; v++) {
            if (now.mayTell(i, v)) {
                trial.copyFrom(now);
                trial.figures[i] = v;
                int right = head.printQueue(trial, NOBODY_DEAD);
                if (right > mostRight) {
                    mostRight = right;
                    best = v;
                }
            }
        }
        return best;
    }

    public int judge(int n, long row) {
        if (n < 1 || n > 4) {
            return BAD;
        }
        long unit = 1;
        for (int i = 1; i < n; i++) {
            unit *= 10000;
        }
        if (row < 0 || row >= unit * 10000) {
            return BAD;
        }
        trial.copyFrom(now);
        for (int place = 0; place < n; place++) {
            long shifted = row;
            for (int behind = place + 1; behind < n; behind++) {
                shifted /= 10000;
            }
            if (!canBe((int) (shifted % 10000))) {
                return place;
            }
        }
        return NONE;
    }

    // ---- seen

    public int see(int dot, int n, int v) {
        if (!head.hasDot(dot)) {
            return UNKNOWN;
        }
        if (n < 0 || n > 8 || v < 0 || v > MOST_HEAT) {
            return BAD;
        }
        return sights.append(dot, n, v) ? sights.count : FULL;
    }

    public int unsee() {
        int was = sights.count;
        sights.count = 0;
        return was;
    }

    public int which() {
        int suspects = 0;
        for (int d = 0; d < head.dots; d++) {
            if (agreesWithSights(1 << d)) {
                suspects |= 1 << d;
            }
        }
        return suspects;
    }

    // ---- shares, chances

    public int share(int dot, boolean upper) {
        if (!head.hasDot(dot)) {
            return UNKNOWN;
        }
        int all = head.allDots();
        int own = 1 << dot;
        long sum = 0;
        for (int come = 0; come <= all; come++) {
            if ((come & own) == 0) {
                int more = rightWithDead(all & ~(come | own)) - rightWithDead(all & ~come);
                sum += (long) more * ordersWith(Integer.bitCount(come));
            }
        }
        return toldFraction(sum, FACTORIALS[head.dots], upper);
    }

    public int chance(int v, int x, boolean upper) {
        if (v < 0 || v > 64 || x < 0 || x > 10) {
            return BAD;
        }
        int all = head.allDots();
        long sum = 0;
        for (int dead = 0; dead <= all; dead++) {
            int deadCount = Integer.bitCount(dead);
            long weight = power(x, deadCount) * power(10 - x, head.dots - deadCount);
            if (weight > 0 && rightWithDead(dead) >= v) {
                sum += weight;
            }
        }
        return toldFraction(sum, power(10, head.dots), upper);
    }

    public long seed(long v) {
        long was = seedNow;
        seedNow = v;
        return was;
    }

    public int drawn(int m) {
        if (m < 1 || m > 20) {
            return BAD;
        }
        trial.copyFrom(now);
        for (int i = 0; i < m; i++) {
            seedNow = seedNow * 6364136223846793005L + 1442695040888963407L;
            int v = (int) (seedNow >>> 33);
            head.printLine(trial, v & head.allDots(), NOBODY_DEAD);
        }
        return trial.right - now.right;
    }

    // ---- slots

    public int keep(int slot) {
        if (!Slots.isSlot(slot)) {
            return UNKNOWN;
        }
        slots.store(slot, now);
        return now.printed;
    }

    public int again(int slot) {
        if (!Slots.isSlot(slot)) {
            return UNKNOWN;
        }
        if (!slots.fetch(slot, now)) {
            return LATE;
        }
        acts.forgetAll();
        return now.printed;
    }

    // ---- what the calls share

    private static boolean isFigurePlace(int i) {
        return i >= 0 && i < FIGURES;
    }

    private static boolean isPause(int k) {
        return k >= 1 && k <= 99;
    }

    private int ticks() {
        run.plan(head, now);
        int ticks = 0;
        for (int i = 0; i < now.queued; i++) {
            ticks += 60 / Math.max(1, run.speeds[i]);
        }
        return ticks;
    }

    private int leastRest() {
        if (now.queued == 0) {
            return NONE;
        }
        rested.copyFrom(now);
        for (int k = 0; k <= LONGEST_REST; k++) {
            trial.copyFrom(rested);
            head.printLine(trial, now.queue[0], NOBODY_DEAD);
            if (trial.dark == now.dark && trial.ghosts == now.ghosts) {
                return k;
            }
            head.coolDown(rested);
        }
        return NONE;
    }

    private int heatBehind(int n, int dot, int dead) {
        trial.copyFrom(now);
        head.printSome(trial, n, dead);
        return trial.heats[dot];
    }

    private boolean agreesWithSights(int dead) {
        for (int i = 0; i < sights.count; i++) {
            int dot = sights.dots[i];
            // A job told since may have fewer dots: such a sight says nothing.
            if (head.hasDot(dot) && heatBehind(sights.lines[i], dot, dead) != sights.heats[i]) {
                return false;
            }
        }
        return true;
    }

    /** Does a doing of four figures on the trial, or asks it there; false if it can not be or is not so. */
    private boolean canBe(int doing) {
        int told = doing % 1000;
        int second = told / 100;
        int third = told / 10 % 10;
        int fourth = told % 10;
        switch (doing / 1000) {
            case 1: return canPut(told);
            case 2: return told >= 1 && told <= 9 && head.printSome(trial, told, NOBODY_DEAD) == told;
            case 3: return canPause(told);
            case 4: return trial.right == told;
            case 5: return third == 0 && head.hasDot(second) && bit(trial.last, second) == fourth;
            case 6: return second == 0 && canTell(third, fourth);
            default: return false;
        }
    }

    private boolean canPut(int w) {
        if (!head.hasDots(w) || trial.isFull()) {
            return false;
        }
        trial.append(w);
        return true;
    }

    private boolean canPause(int k) {
        if (!isPause(k)) {
            return false;
        }
        head.rest(trial, k);
        return true;
    }

    private boolean canTell(int i, int v) {
        if (!trial.mayTell(i, v)) {
            return false;
        }
        trial.figures[i] = v;
        return true;
    }

    private int rightWithDead(int dead) {
        trial.copyFrom(now);
        return head.printQueue(trial, dead);
    }

    /** Orders of all dots in which just certain ones, so many, come ahead of a certain other. */
    private long ordersWith(int ahead) {
        int behind = head.dots - 1 - ahead;
        if (ahead < 0 || behind < 0 || ahead >= FACTORIALS.length || behind >= FACTORIALS.length) {
            return 0;
        }
        return (long) FACTORIALS[ahead] * FACTORIALS[behind];
    }

    private static int bit(int set, int place) {
        return set >> place & 1;
    }

    private static long power(int base, int times) {
        long product = 1;
        for (int i = 0; i < times; i++) {
            product *= base;
        }
        return product;
    }

    private static int toldFraction(long above, long below, boolean upper) {
        long divisor = Math.max(1, commonDivisor(Math.abs(above), below));
        return (int) ((upper ? above : below) / divisor);
    }

    private static long commonDivisor(long a, long b) {
        long great = a;
        long small = b;
        // Euclid needs fewer than 100 steps for any two longs.
        for (int step = 0; step < 100 && small != 0; step++) {
            long left = great % small;
            great = small;
            small = left;
        }
        return great;
    }

    /** The letters of a job that is told, and what they say. */
    private static final class Text {
        private static final int LOW_PLACE = 4;
        private static final int HIGH_PLACE = 7;
        private static final int GHOST_PLACE = 10;
        private static final int TABLE_PLACE = 13;
        private static final int LINES_PLACE = 18;

        final int[] letters = new int[MOST_LETTERS];
        int length;

        boolean append(int letter) {
            if (length >= MOST_LETTERS) {
                return false;
            }
            letters[length] = letter;
            length++;
            return true;
        }

        int firstFault() {
            for (int place = 0; place < length; place++) {
                if (!fits(place)) {
                    return place;
                }
            }
            boolean ended = length >= LINES_PLACE && (length - LINES_PLACE) % lineLength() == 0;
            return ended ? NONE : length;
        }

        /** Whether the letter there can stand in a job, all letters ahead of it being right. */
        private boolean fits(int place) {
            int letter = letters[place];
            switch (place) {
                case 0: return letter == 'H';
                case 1: return letter >= '1' && letter <= '8';
                case 2: return letter >= '1' && letter <= '4';
                case 3: return letter >= '1' && letter <= '8';
                default: break;
            }
            if (place < LINES_PLACE) {
                boolean isFigure = letter >= '0' && letter <= '9';
                return isFigure && (place <= TABLE_PLACE || letter <= letters[place - 1]);
            }
            int behind = place - LINES_PLACE;
            if (behind % lineLength() == 0) {
                return letter == 'l' && behind / lineLength() < MOST_LINES;
            }
            return letter == 'o' || letter == '-';
        }

        private int figureAt(int place) {
            return letters[place] - '0';
        }

        private int threeFiguresAt(int place) {
            return figureAt(place) * 100 + figureAt(place + 1) * 10 + figureAt(place + 2);
        }

        /** An l and the signs; it divides, so it is never less than 2, whatever is told as n. */
        private int lineLength() {
            return Math.max(1, figureAt(1)) + 1;
        }

        void tellHead(Head head) {
            head.dots = Math.min(MOST_DOTS, Math.max(1, figureAt(1)));
            head.cool = figureAt(2);
            head.power = figureAt(3);
            head.low = threeFiguresAt(LOW_PLACE);
            head.high = threeFiguresAt(HIGH_PLACE);
            head.ghost = threeFiguresAt(GHOST_PLACE);
        }

        void tellTable(State state) {
            for (int i = 0; i < FIGURES; i++) {
                state.figures[i] = figureAt(TABLE_PLACE + i);
            }
        }

        void tellQueue(State state) {
            int each = lineLength();
            for (int from = LINES_PLACE; from + each <= length; from += each) {
                int w = 0;
                for (int dot = 0; dot + 1 < each; dot++) {
                    if (letters[from + 1 + dot] == 'o') {
                        w |= 1 << dot;
                    }
                }
                state.append(w);
            }
        }
    }

    /** All that an act can change, and that a slot keeps. */
    private static final class State {
        final int[] heats = new int[MOST_DOTS];
        final int[] figures = new int[FIGURES];
        final int[] queue = new int[MOST_LINES];
        int queued;
        int last;
        int before;
        int ribbon;
        int right;
        int pale;
        int dark;
        int ghosts;
        int printed;

        void copyFrom(State other) {
            System.arraycopy(other.heats, 0, heats, 0, MOST_DOTS);
            System.arraycopy(other.figures, 0, figures, 0, FIGURES);
            System.arraycopy(other.queue, 0, queue, 0, MOST_LINES);
            queued = other.queued;
            last = other.last;
            before = other.before;
            ribbon = other.ribbon;
            right = other.right;
            pale = other.pale;
            dark = other.dark;
            ghosts = other.ghosts;
            printed = other.printed;
        }

        /** As it is when a job has just been told, but for the table and the queue of that job. */
        void startAnew() {
            for (int d = 0; d < MOST_DOTS; d++) {
                heats[d] = 0;
            }
            queued = 0;
            last = 0;
            before = 0;
            ribbon = NEW_RIBBON;
            right = 0;
            pale = 0;
            dark = 0;
            ghosts = 0;
            printed = 0;
        }

        boolean isFull() {
            return queued >= MOST_LINES;
        }

        void append(int w) {
            if (queued < MOST_LINES) {
                queue[queued] = w;
                queued++;
            }
        }

        void dropFirst() {
            for (int i = 1; i < queued; i++) {
                queue[i - 1] = queue[i];
            }
            queued = Math.max(0, queued - 1);
        }

        boolean mayTell(int i, int v) {
            if (!isFigurePlace(i)) {
                return false;
            }
            int most = i == 0 ? 9 : figures[i - 1];
            int least = i == FIGURES - 1 ? 0 : figures[i + 1];
            return v >= least && v <= most;
        }

        int allHeat() {
            int sum = 0;
            for (int d = 0; d < MOST_DOTS; d++) {
                sum += heats[d];
            }
            return sum;
        }
    }

    /** What a head is made for, and how lines are printed by it. */
    private static final class Head {
        final int[] pulses = new int[MOST_DOTS];
        int dots = 1;
        int cool = 1;
        int power = 1;
        int low;
        int high;
        int ghost;

        boolean hasDot(int dot) {
            return dot >= 0 && dot < dots;
        }

        boolean hasDots(int w) {
            return w >= 0 && w <= allDots();
        }

        int allDots() {
            return (1 << dots) - 1;
        }

        void coolDown(State state) {
            for (int d = 0; d < dots; d++) {
                state.heats[d] -= state.heats[d] >> cool;
            }
        }

        void rest(State state, int k) {
            for (int i = 0; i < k; i++) {
                coolDown(state);
            }
        }

        /** Prints until n lines are done, none is left, or the ribbon is at its end: how many were done. */
        int printSome(State state, int n, int dead) {
            for (int done = 0; done < n; done++) {
                int w = state.queue[0];
                if (state.queued == 0 || state.ribbon == 0 && w != 0) {
                    return done;
                }
                state.dropFirst();
                printLine(state, w, dead);
                if (w != 0) {
                    state.ribbon--;
                }
            }
            return n;
        }

        /** Prints what is in the queue, which stays, with the ribbon set aside: how many are right. */
        int printQueue(State state, int dead) {
            int was = state.right;
            for (int i = 0; i < state.queued; i++) {
                printLine(state, state.queue[i], dead);
            }
            return state.right - was;
        }

        void printLine(State state, int w, int dead) {
            coolDown(state);
            findPulses(state.figures, w, state.last, state.before);
            heatUp(state.heats, w & ~dead);
            countMarks(state, w);
            state.before = state.last;
            state.last = w;
        }

        /** A dot's pulse goes by what is to be black, so that dead dots have one, too. */
        void findPulses(int[] figures, int w, int last, int before) {
            for (int d = 0; d < dots; d++) {
                pulses[d] = 0;
                if (bit(w, d) == 1) {
                    int near = bit(w << 1, d) + bit(w >> 1, d) + bit(last, d) + bit(before, d);
                    pulses[d] = figures[near];
                }
            }
        }

        private void heatUp(int[] heats, int heating) {
            for (int d = 0; d < dots; d++) {
                if (bit(heating, d) == 1) {
                    heats[d] += 10 * pulses[d];
                    if (d > 0) {
                        heats[d - 1] += 2 * pulses[d];
                    }
                    if (d + 1 < dots) {
                        heats[d + 1] += 2 * pulses[d];
                    }
                }
            }
            // Held only now: the order in which neighbours heat a dot must not matter.
            for (int d = 0; d < dots; d++) {
                heats[d] = Math.min(MOST_HEAT, heats[d]);
            }
        }

        private void countMarks(State state, int w) {
            for (int d = 0; d < dots; d++) {
                int heat = state.heats[d];
                if (bit(w, d) == 0) {
                    state.ghosts += heat > ghost ? 1 : 0;
                } else if (heat < low) {
                    state.pale++;
                } else if (heat <= high) {
                    state.right++;
                } else {
                    state.dark++;
                }
            }
            state.printed++;
        }

        /** The time of a line whose pulses were found last: the first of each strobe is its greatest. */
        int timeOf(int w) {
            int time = 0;
            int room = 0;
            for (int pulse = 9; pulse >= 0; pulse--) {
                for (int d = 0; d < dots; d++) {
                    if (bit(w, d) == 1 && pulses[d] == pulse) {
                        if (room == 0) {
                            time += pulse;
                            room = power;
                        }
                        room--;
                    }
                }
            }
            return time;
        }
    }

    /** How long the lines of a queue take, and how fast the motor runs by them. */
    private static final class Run {
        final int[] times = new int[MOST_LINES];
        final int[] speeds = new int[MOST_LINES];

        void plan(Head head, State state) {
            findTimes(head, state);
            int speed = 0;
            for (int i = 0; i < state.queued; i++) {
                speed = Math.min(speed + 1, mostAt(times[i]));
                speeds[i] = speed;
            }
            speed = 0;
            for (int i = state.queued - 1; i >= 0; i--) {
                speed = Math.min(speed + 1, speeds[i]);
                speeds[i] = speed;
            }
        }

        private void findTimes(Head head, State state) {
            int last = state.last;
            int before = state.before;
            for (int i = 0; i < state.queued; i++) {
                int w = state.queue[i];
                head.findPulses(state.figures, w, last, before);
                times[i] = head.timeOf(w);
                before = last;
                last = w;
            }
        }

        static int mostAt(int time) {
            return Math.max(1, 9 - time / 9);
        }
    }

    /** How it stood ahead of each act that can be undone; a ring, so that the first one is forgotten cheaply. */
    private static final class Acts {
        private final State[] ring = new State[MOST_ACTS];
        private int first;
        int count;

        Acts() {
            for (int i = 0; i < MOST_ACTS; i++) {
                ring[i] = new State();
            }
        }

        void remember(State state) {
            if (count >= MOST_ACTS) {
                first = (first + 1) % MOST_ACTS;
                count = MOST_ACTS - 1;
            }
            ring[(first + count) % MOST_ACTS].copyFrom(state);
            count++;
        }

        boolean takeBack(State state) {
            if (count <= 0) {
                return false;
            }
            count--;
            state.copyFrom(ring[(first + count) % MOST_ACTS]);
            return true;
        }

        void forgetAll() {
            count = 0;
        }
    }

    /** What was seen of a head of which one dot is dead. */
    private static final class Sights {
        final int[] dots = new int[MOST_SEEN];
        final int[] lines = new int[MOST_SEEN];
        final int[] heats = new int[MOST_SEEN];
        int count;

        boolean append(int dot, int n, int v) {
            if (count >= MOST_SEEN) {
                return false;
            }
            dots[count] = dot;
            lines[count] = n;
            heats[count] = v;
            count++;
            return true;
        }
    }

    /** What was kept to be gone on from. */
    private static final class Slots {
        private final State[] states = new State[SLOTS];
        private final boolean[] filled = new boolean[SLOTS];

        Slots() {
            for (int i = 0; i < SLOTS; i++) {
                states[i] = new State();
            }
        }

        static boolean isSlot(int slot) {
            return slot >= 0 && slot < SLOTS;
        }

        void store(int slot, State state) {
            if (isSlot(slot)) {
                states[slot].copyFrom(state);
                filled[slot] = true;
            }
        }

        boolean fetch(int slot, State state) {
            if (!isSlot(slot) || !filled[slot]) {
                return false;
            }
            state.copyFrom(states[slot]);
            return true;
        }

        void forgetAll() {
            for (int i = 0; i < SLOTS; i++) {
                filled[i] = false;
            }
        }
    }
}
