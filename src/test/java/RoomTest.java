import com.sun.management.ThreadMXBean;
import java.lang.management.ManagementFactory;

/** The room that all calls of a run share: what an object and its dearest 512 calls make, in bytes. */
public final class RoomTest {
    /** A tenth of the room: 730,000 fields and elements of 8 bytes. */
    private static final long TENTH_OF_THE_ROOM = 730_000L * 8;
    private static final int MOST_CALLS = 512;
    /** Reading the count makes some bytes itself; the least object, made each time, would be more than these. */
    private static final int TIMES = 100;
    private static final long LITTLE = 16 * TIMES - 1;

    private static final ThreadMXBean BEAN = (ThreadMXBean) ManagementFactory.getThreadMXBean();

    private RoomTest() {
    }

    public static void main(String[] args) {
        // Once ahead, so that loading the classes is not counted.
        play();
        anObjectAndItsCalls();
        callsAgain();
        Check.end("RoomTest");
    }

    private static void anObjectAndItsCalls() {
        long before = made();
        play();
        long bytes = made() - before;
        Check.due("an object and 512 calls make " + bytes + " bytes", bytes < TENTH_OF_THE_ROOM ? 1 : 0, 1);
    }

    private static void callsAgain() {
        HundredBoxes[] all = new HundredBoxes[TIMES];
        for (int i = 0; i < TIMES; i++) {
            all[i] = new HundredBoxes();
            callEach(all[i]);
        }
        long before = made();
        for (HundredBoxes x : all) callEach(x);
        long bytes = made() - before;
        Check.due("the same calls again make " + bytes + " bytes", bytes < LITTLE ? 1 : 0, 1);
    }

    private static long made() {
        return BEAN.getThreadAllocatedBytes(Thread.currentThread().getId());
    }

    /** All kinds of all numbers of THINGS, the greatest first, again and again. */
    private static void play() {
        HundredBoxes x = new HundredBoxes();
        for (int call = 0; call < MOST_CALLS; call++) {
            int kind = call % 9;
            if (kind == 8) {
                x.things(18 - call / 9 % 18);
            } else {
                x.many(kind, 3);
            }
        }
    }

    private static void callEach(HundredBoxes x) {
        x.things(1);
        x.order(0, 0);
        x.things(18);
        for (int k = 0; k < 8; k++) {
            x.number(k);
            x.many(k, 9);
            x.mean(k, 0);
        }
        for (int kind = -1; kind < 3; kind++) {
            x.row(kind, 9, 12345678);
            x.place(kind);
        }
        x.swap(0, 17);
        x.lay(1);
        x.then(1);
        x.back();
        x.take(1);
        x.toRounds();
        x.toRecords();
        x.things(7);
        x.list(0, 6);
        x.wins(0, 0);
        x.wins(1, 0);
        x.allWin(0);
        x.allWin(1);
        x.forget(0);
        x.opens(7);
        x.count(2);
    }
}
