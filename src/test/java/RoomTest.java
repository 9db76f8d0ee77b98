import java.lang.management.ManagementFactory;

/** All calls of one run live in one room: what the constructor and 512 of the dearest calls take of it. */
public final class RoomTest {
    private static final long ROOM_OF_CONSTRUCTOR = 1_000_000;
    private static final long ROOM_OF_CALLS = 10_000;

    public static void main(String[] args) {
        Checks checks = new Checks();
        com.sun.management.ThreadMXBean threads =
                (com.sun.management.ThreadMXBean) ManagementFactory.getThreadMXBean();
        long self = Thread.currentThread().getId();
        play(new WornSums());
        long atFirst = threads.getThreadAllocatedBytes(self);
        WornSums sums = new WornSums();
        long made = threads.getThreadAllocatedBytes(self);
        play(sums);
        long played = threads.getThreadAllocatedBytes(self);
        checks.holds("the constructor takes " + (made - atFirst) + " bytes", made - atFirst <= ROOM_OF_CONSTRUCTOR);
        checks.holds("the calls take " + (played - made) + " bytes", played - made <= ROOM_OF_CALLS);
        checks.end("RoomTest");
    }

    /** Six ENTRIES with as many AGREEING NUMBERS as can be, and a change ahead of each question. */
    private static void play(WornSums sums) {
        for (int entry = 0; entry < 6; entry++) {
            Checks.tell(sums, "??? hundred and ?????? ???=???");
        }
        for (int n = 0; n < 45; n++) {
            sums.totals(2000 + n);
            sums.least(-1);
            sums.sure(n % 6);
            sums.look(n % 6);
            sums.ranked(n % 6, 20, 0);
            sums.count(1);
        }
        sums.keep(0);
        sums.undo();
        sums.back(0);
    }
}
