import java.lang.management.ManagementFactory;

/** All calls of a run live in one room: an object is small, and no call makes anything new. */
public final class RoomTest {
    private static final long OBJECT_BYTES = 40_000, CALLS_BYTES = 20_000;

    private final com.sun.management.ThreadMXBean room = (com.sun.management.ThreadMXBean) ManagementFactory.getThreadMXBean();

    public static void main(String[] args) {
        RoomTest test = new RoomTest();
        // The first round loads classes.
        test.round();
        long[] used = test.round();
        if (used[0] > OBJECT_BYTES || used[1] > CALLS_BYTES) {
            System.out.println("an object takes " + used[0] + " bytes, its calls " + used[1]);
            System.exit(1);
        }
    }

    private long used() {
        return room.getThreadAllocatedBytes(Thread.currentThread().getId());
    }

    private long[] round() {
        long before = used();
        OneLongRow x = new OneLongRow();
        long made = used();
        int[] codes = {119, 59, 116, 47, 97, 98, 99, 97, 59, 98, 47, 98, 98, 97, 97};
        for (int times = 0; times < 7; times++) {
            x.sheet(0, 2, 60);
            for (int k = 0; k < codes.length; k++) x.put(0, k, codes[k]);
            x.words(0, 2, 0, codes.length);
            x.copy(0, 20, 0, 10, 20);
            for (int k = 0; k < 3; k++) {
                x.say(k); x.spell(0, 0, k); x.have(30); x.free(30); x.odds(30, 1); x.all(-1); x.longest(); x.spare();
                x.row(0, 2, 20, 40, 2); x.reading(0, 0, 2, 20, 8, 0); x.kinds(0); x.lasts(0); x.tell(0); x.spelt(0); x.many(2); x.over(0, 1);
            }
        }
        return new long[] {made - before, used() - made};
    }
}
