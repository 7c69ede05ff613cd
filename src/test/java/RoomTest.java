import com.sun.management.ThreadMXBean;
import java.lang.management.ManagementFactory;

/** All calls of a run live in one room: an object is small, and its calls make nothing. */
public final class RoomTest {
    private static final Due due = new Due("RoomTest");
    private static final ThreadMXBean threads = (ThreadMXBean) ManagementFactory.getThreadMXBean();
    private static final String JOB = "H81205012002097531loooooooolo-o-o-o-loooooooolo-o-o-o-looooooool--------";

    public static void main(String[] args) {
        HeatLines x = new HeatLines();
        long none = Long.MAX_VALUE;
        long least = Long.MAX_VALUE;
        // The machine makes things of its own now and then; what a call makes, it makes each time.
        for (int i = 0; i < 10; i++) {
            long was = made();
            none = Math.min(none, made() - was);
            was = made();
            useAll(x);
            least = Math.min(least, made() - was);
        }
        due.is("bytes made by calls", least - none, 0);
        long was = made();
        HeatLines y = new HeatLines();
        long bytes = made() - was - none;
        System.out.println("RoomTest: an object takes " + bytes + " bytes");
        due.isTrue("an object takes at most 8000 bytes", bytes <= 8000);
        due.is("a new object", y.about(0), 1);
        due.end();
    }

    private static long made() {
        return threads.getCurrentThreadAllocatedBytes();
    }

    private static void useAll(HeatLines x) {
        x.wipe();
        for (int i = 0; i < JOB.length(); i++) {
            x.write(JOB.charAt(i));
        }
        x.fault();
        x.job();
        for (int i = -1; i < 21; i++) {
            x.about(i);
            x.heat(i);
            x.table(i);
            x.line(i, 0);
            x.line(i, 1);
            x.line(i, 3);
            x.see(i, 2, 40);
            x.fit(i);
            x.ahead(i, 1);
            x.drawn(i);
        }
        x.which();
        x.unsee();
        x.share(3, true);
        x.chance(9, 3, false);
        x.judge(4, 2001300160084009L);
        x.keep(0);
        for (int i = 0; i < 20; i++) {
            x.put(i);
            x.print(1);
            x.pause(2);
            x.set(0, 8 + i % 2);
            x.ribbon(i + 9);
        }
        x.undo();
        x.again(0);
        x.seed(7);
    }
}
