import java.math.BigInteger;
import java.util.ArrayDeque;
import java.util.ArrayList;
import java.util.Arrays;
import java.util.Collections;
import java.util.Deque;
import java.util.List;
import java.util.Set;
import java.util.TreeSet;
import java.util.regex.Pattern;

/** The document written a second time, in its own words and without a thought for room or speed. */
final class Model {
    static final int UNKNOWN = -1, BAD = -2, LATE = -3, FULL = -4, NONE = -9;

    /** How all stands; a line is the set of its dots. */
    private static final class Stand {
        int[] heat;
        int[] table = new int[5];
        List<Set<Integer>> queue = new ArrayList<>();
        Set<Integer> last = new TreeSet<>();
        Set<Integer> before = new TreeSet<>();
        int ribbon, right, pale, dark, ghosts, printed;

        Stand(int dots) {
            heat = new int[dots];
        }

        Stand copy() {
            Stand s = new Stand(heat.length);
            s.heat = heat.clone();
            s.table = table.clone();
            s.queue = new ArrayList<>(queue);
            s.last = last;
            s.before = before;
            s.ribbon = ribbon;
            s.right = right;
            s.pale = pale;
            s.dark = dark;
            s.ghosts = ghosts;
            s.printed = printed;
            return s;
        }
    }

    private final StringBuilder text = new StringBuilder();
    private int dots = 1, cool = 1, power = 1, low, high, ghost;
    private Stand now = new Stand(1);
    private final Deque<Stand> acts = new ArrayDeque<>();
    private final List<int[]> seen = new ArrayList<>();
    private final Stand[] kept = new Stand[2];
    private long seed;

    private static Set<Integer> setOf(int bits) {
        Set<Integer> set = new TreeSet<>();
        for (int d = 0; d < 31; d++) {
            if ((bits & 1 << d) != 0) {
                set.add(d);
            }
        }
        return set;
    }

    private static int bitsOf(Set<Integer> set) {
        int bits = 0;
        for (int d : set) {
            bits += 1 << d;
        }
        return bits;
    }

    // ---- what a line does

    private int count(boolean... so) {
        int count = 0;
        for (boolean b : so) {
            count += b ? 1 : 0;
        }
        return count;
    }

    private int pulse(Stand s, Set<Integer> w, int d, Set<Integer> last, Set<Integer> before) {
        return s.table[count(w.contains(d - 1), w.contains(d + 1), last.contains(d), before.contains(d))];
    }

    private void cooled(Stand s) {
        for (int d = 0; d < dots; d++) {
            s.heat[d] = s.heat[d] - (s.heat[d] >> cool);
        }
    }

    private void printed(Stand s, Set<Integer> w, Set<Integer> dead) {
        cooled(s);
        int[] more = new int[dots + 2];
        for (int d : w) {
            if (!dead.contains(d)) {
                int pulse = pulse(s, w, d, s.last, s.before);
                more[d] += 2 * pulse;
                more[d + 1] += 10 * pulse;
                more[d + 2] += 2 * pulse;
            }
        }
        for (int d = 0; d < dots; d++) {
            s.heat[d] = Math.min(999, s.heat[d] + more[d + 1]);
            int heat = s.heat[d];
            if (w.contains(d)) {
                if (heat >= low && heat <= high) {
                    s.right++;
                } else if (heat < low) {
                    s.pale++;
                } else {
                    s.dark++;
                }
            } else if (heat > ghost) {
                s.ghosts++;
            }
        }
        s.printed++;
        s.before = s.last;
        s.last = w;
    }

    private int printing(Stand s, int n, Set<Integer> dead) {
        int done = 0;
        while (done < n) {
            if (s.queue.isEmpty() || s.ribbon == 0 && !s.queue.get(0).isEmpty()) {
                break;
            }
            Set<Integer> w = s.queue.remove(0);
            printed(s, w, dead);
            s.ribbon -= w.isEmpty() ? 0 : 1;
            done++;
        }
        return done;
    }

    private int rightInQueue(Stand from, Set<Integer> dead) {
        Stand s = from.copy();
        for (Set<Integer> w : from.queue) {
            printed(s, w, dead);
        }
        return s.right - from.right;
    }

    // ---- the job

    int write(int letter) {
        if (letter < 0 || letter > 255) {
            return BAD;
        }
        if (text.length() == 99) {
            return FULL;
        }
        text.append((char) letter);
        return text.length();
    }

    int wipe() {
        int was = text.length();
        text.setLength(0);
        return was;
    }

    /** Tries what could come behind: a text can become a job, if some way of filling it up is one. */
    int fault() {
        String all = text.toString();
        if (isJob(all)) {
            return NONE;
        }
        for (int cut = 1; cut <= all.length(); cut++) {
            if (!canBecomeJob(all.substring(0, cut))) {
                return cut - 1;
            }
        }
        return all.length();
    }

    private static boolean isJob(String t) {
        if (!Pattern.matches("(?s)H[1-8][1-4][1-8][0-9]{14}.*", t)) {
            return false;
        }
        for (int i = 14; i < 18; i++) {
            if (t.charAt(i) > t.charAt(i - 1)) {
                return false;
            }
        }
        return Pattern.matches("(l[o-]{" + t.charAt(1) + "}){0,8}", t.substring(18));
    }

    private static boolean canBecomeJob(String t) {
        String least = "H11100000000000000";
        if (t.length() < 18) {
            return isJob(t + least.substring(t.length()));
        }
        int n = t.charAt(1) - '0';
        int over = (t.length() - 18) % (n + 1);
        String filled = over == 0 ? t : t + "o".repeat(n + 1 - over);
        return isJob(filled);
    }

    int job() {
        if (fault() != NONE) {
            return LATE;
        }
        String t = text.toString();
        dots = Integer.parseInt(t.substring(1, 2));
        cool = Integer.parseInt(t.substring(2, 3));
        power = Integer.parseInt(t.substring(3, 4));
        low = Integer.parseInt(t.substring(4, 7));
        high = Integer.parseInt(t.substring(7, 10));
        ghost = Integer.parseInt(t.substring(10, 13));
        now = new Stand(dots);
        for (int i = 0; i < 5; i++) {
            now.table[i] = Integer.parseInt(t.substring(13 + i, 14 + i));
        }
        now.ribbon = 99;
        String[] lines = t.substring(18).split("l");
        for (int k = 1; k < lines.length; k++) {
            Set<Integer> w = new TreeSet<>();
            for (int d = 0; d < dots; d++) {
                if (lines[k].charAt(d) == 'o') {
                    w.add(d);
                }
            }
            now.queue.add(w);
        }
        acts.clear();
        Arrays.fill(kept, null);
        return now.queue.size();
    }

    int about(int what) {
        int[] all = {dots, cool, power, low, high, ghost, now.queue.size(), bitsOf(now.last), bitsOf(now.before),
            now.ribbon, now.right, now.pale, now.dark, now.ghosts, now.printed, ticks(), rest(), acts.size(),
            seen.size(), text.length()};
        return what < 0 || what >= all.length ? BAD : all[what];
    }

    int heat(int dot) {
        return dot < 0 || dot >= dots ? UNKNOWN : now.heat[dot];
    }

    int table(int i) {
        return i < 0 || i > 4 ? BAD : now.table[i];
    }

    int line(int i, int what) {
        if (what < 0 || what > 3) {
            return BAD;
        }
        if (i < 0 || i >= now.queue.size()) {
            return NONE;
        }
        return what == 0 ? bitsOf(now.queue.get(i)) : what == 1 ? time(i) : what == 2 ? most(i) : speeds()[i];
    }

    private Set<Integer> lineAhead(int i) {
        return i >= 0 ? now.queue.get(i) : i == -1 ? now.last : now.before;
    }

    private int time(int i) {
        List<Integer> pulses = new ArrayList<>();
        for (int d : now.queue.get(i)) {
            pulses.add(pulse(now, now.queue.get(i), d, lineAhead(i - 1), lineAhead(i - 2)));
        }
        pulses.sort(Collections.reverseOrder());
        int time = 0;
        for (int k = 0; k < pulses.size(); k += power) {
            time += Collections.max(pulses.subList(k, Math.min(pulses.size(), k + power)));
        }
        return time;
    }

    private int most(int i) {
        return Math.max(1, 9 - time(i) / 9);
    }

    /** From the most on each that is too fast is slowed by one until all is so. */
    private int[] speeds() {
        int k = now.queue.size();
        int[] speeds = new int[k];
        for (int i = 0; i < k; i++) {
            speeds[i] = i == 0 || i == k - 1 ? 1 : most(i);
        }
        boolean slowed = true;
        while (slowed) {
            slowed = false;
            for (int i = 0; i + 1 < k; i++) {
                int fast = speeds[i] > speeds[i + 1] ? i : i + 1;
                if (Math.abs(speeds[i] - speeds[i + 1]) > 1) {
                    speeds[fast]--;
                    slowed = true;
                }
            }
        }
        return speeds;
    }

    private int ticks() {
        int ticks = 0;
        for (int speed : speeds()) {
            ticks += 60 / speed;
        }
        return ticks;
    }

    private int rest() {
        if (now.queue.isEmpty()) {
            return NONE;
        }
        for (int k = 0; k <= 60; k++) {
            Stand s = now.copy();
            for (int i = 0; i < k; i++) {
                cooled(s);
            }
            printed(s, now.queue.get(0), Set.of());
            if (s.dark == now.dark && s.ghosts == now.ghosts) {
                return k;
            }
        }
        return NONE;
    }

    // ---- acts

    private void act() {
        acts.addLast(now);
        if (acts.size() > 14) {
            acts.removeFirst();
        }
        now = now.copy();
    }

    private boolean isLine(int w) {
        return w >= 0 && w <= 255 && setOf(w).stream().allMatch(d -> d < dots);
    }

    private static boolean mayBeTold(Stand s, int i, int v) {
        if (i < 0 || i > 4 || v < 0 || v > 9) {
            return false;
        }
        int[] table = s.table.clone();
        table[i] = v;
        for (int k = 1; k < 5; k++) {
            if (table[k] > table[k - 1]) {
                return false;
            }
        }
        return true;
    }

    int put(int w) {
        if (!isLine(w)) {
            return BAD;
        }
        if (now.queue.size() == 8) {
            return FULL;
        }
        act();
        now.queue.add(setOf(w));
        return now.queue.size();
    }

    int print(int n) {
        if (n < 1 || n > 9) {
            return BAD;
        }
        act();
        return printing(now, n, Set.of());
    }

    int pause(int k) {
        if (k < 1 || k > 99) {
            return BAD;
        }
        act();
        for (int i = 0; i < k; i++) {
            cooled(now);
        }
        return Arrays.stream(now.heat).sum();
    }

    int set(int i, int v) {
        if (!mayBeTold(now, i, v)) {
            return BAD;
        }
        act();
        int was = now.table[i];
        now.table[i] = v;
        return was;
    }

    int ribbon(int v) {
        if (v < 0 || v > 999) {
            return BAD;
        }
        act();
        int was = now.ribbon;
        now.ribbon = v;
        return was;
    }

    int undo() {
        if (acts.isEmpty()) {
            return LATE;
        }
        now = acts.removeLast();
        return acts.size();
    }

    // ---- asked

    int ahead(int n, int dot) {
        if (dot < 0 || dot >= dots) {
            return UNKNOWN;
        }
        if (n < 0 || n > 9) {
            return BAD;
        }
        Stand s = now.copy();
        printing(s, n, Set.of());
        return s.heat[dot];
    }

    int fit(int i) {
        if (i < 0 || i > 4) {
            return BAD;
        }
        int best = -1;
        int most = -1;
        for (int v = 9; v >= 0; v--) {
            if (mayBeTold(now, i, v)) {
                Stand s = now.copy();
                s.table[i] = v;
                int right = rightInQueue(s, Set.of());
                if (right >= most) {
                    most = right;
                    best = v;
                }
            }
        }
        return best;
    }

    int judge(int n, long row) {
        if (n < 1 || n > 4 || row < 0 || Long.toString(row).length() > 4 * n) {
            return BAD;
        }
        String all = String.format("%0" + 4 * n + "d", row);
        Stand s = now.copy();
        for (int place = 0; place < n; place++) {
            if (!judged(s, all.substring(4 * place, 4 * place + 4))) {
                return place;
            }
        }
        return NONE;
    }

    private boolean judged(Stand s, String doing) {
        int w = Integer.parseInt(doing.substring(1));
        int a = doing.charAt(1) - '0';
        int b = doing.charAt(2) - '0';
        int c = doing.charAt(3) - '0';
        if (doing.matches("1...") && isLine(w) && s.queue.size() < 8) {
            s.queue.add(setOf(w));
            return true;
        }
        if (doing.matches("200[1-9]")) {
            return printing(s, c, Set.of()) == c;
        }
        if (doing.matches("30..") && w > 0) {
            for (int i = 0; i < w; i++) {
                cooled(s);
            }
            return true;
        }
        if (doing.matches("60..") && mayBeTold(s, b, c)) {
            s.table[b] = c;
            return true;
        }
        return doing.matches("4...") && s.right == w
            || doing.matches("5.0[01]") && a < dots && s.last.contains(a) == (c == 1);
    }

    // ---- seen

    int see(int dot, int n, int v) {
        if (dot < 0 || dot >= dots) {
            return UNKNOWN;
        }
        if (n < 0 || n > 8 || v < 0 || v > 999) {
            return BAD;
        }
        if (seen.size() == 6) {
            return FULL;
        }
        seen.add(new int[] {dot, n, v});
        return seen.size();
    }

    int unsee() {
        int was = seen.size();
        seen.clear();
        return was;
    }

    int which() {
        Set<Integer> which = new TreeSet<>();
        for (int dead = 0; dead < dots; dead++) {
            boolean so = true;
            for (int[] one : seen) {
                if (one[0] < dots) {
                    Stand s = now.copy();
                    printing(s, one[1], Set.of(dead));
                    so &= s.heat[one[0]] == one[2];
                }
            }
            if (so) {
                which.add(dead);
            }
        }
        return bitsOf(which);
    }

    // ---- shares, chances

    int share(int dot, boolean upper) {
        if (dot < 0 || dot >= dots) {
            return UNKNOWN;
        }
        int[] right = new int[1 << dots];
        for (int come = 0; come < right.length; come++) {
            right[come] = rightInQueue(now, setOf(right.length - 1 - come));
        }
        long[] sumAndOrders = new long[2];
        allOrders(0, dot, right, sumAndOrders);
        return fraction(BigInteger.valueOf(sumAndOrders[0]), BigInteger.valueOf(sumAndOrders[1]), upper);
    }

    /** Each order one by one; the sum of what the dot brought, and the number of orders. */
    private void allOrders(int come, int dot, int[] right, long[] sumAndOrders) {
        if ((come & 1 << dot) != 0) {
            int behind = dots - Integer.bitCount(come);
            int orders = 1;
            for (int i = 2; i <= behind; i++) {
                orders *= i;
            }
            sumAndOrders[0] += (long) orders * (right[come] - right[come & ~(1 << dot)]);
            sumAndOrders[1] += orders;
            return;
        }
        for (int d = 0; d < dots; d++) {
            if ((come & 1 << d) == 0) {
                allOrders(come | 1 << d, dot, right, sumAndOrders);
            }
        }
    }

    int chance(int v, int x, boolean upper) {
        if (v < 0 || v > 64 || x < 0 || x > 10) {
            return BAD;
        }
        BigInteger sum = BigInteger.ZERO;
        for (int dead = 0; dead < 1 << dots; dead++) {
            BigInteger by = BigInteger.ONE;
            for (int d = 0; d < dots; d++) {
                by = by.multiply(BigInteger.valueOf((dead & 1 << d) != 0 ? x : 10 - x));
            }
            if (rightInQueue(now, setOf(dead)) >= v) {
                sum = sum.add(by);
            }
        }
        return fraction(sum, BigInteger.TEN.pow(dots), upper);
    }

    private static int fraction(BigInteger above, BigInteger below, boolean upper) {
        return (upper ? above : below).divide(above.gcd(below)).intValueExact();
    }

    long seed(long v) {
        long was = seed;
        seed = v;
        return was;
    }

    int drawn(int m) {
        if (m < 1 || m > 20) {
            return BAD;
        }
        Stand s = now.copy();
        for (int i = 0; i < m; i++) {
            seed = seed * 6364136223846793005L + 1442695040888963407L;
            int v = (int) (seed >>> 33);
            Set<Integer> w = setOf(v & 255);
            w.removeIf(d -> d >= dots);
            printed(s, w, Set.of());
        }
        return s.right - now.right;
    }

    // ---- slots

    int keep(int slot) {
        if (slot < 0 || slot > 1) {
            return UNKNOWN;
        }
        kept[slot] = now.copy();
        return now.printed;
    }

    int again(int slot) {
        if (slot < 0 || slot > 1) {
            return UNKNOWN;
        }
        if (kept[slot] == null) {
            return LATE;
        }
        now = kept[slot].copy();
        acts.clear();
        return now.printed;
    }
}
