import java.lang.management.ManagementFactory;

/** All calls of a run live in one room: calls make no objects, a new object only a few. */
final class RoomTest {
    private static final com.sun.management.ThreadMXBean THREADS =
        (com.sun.management.ThreadMXBean) ManagementFactory.getThreadMXBean();
    private static final String HALL = "s010203040506l020406081012h121110090807w010305070911";
    private static final int ROUNDS = 200;

    public static void main(String[] args) {
        CalledNumbers x = Checks.hallOf(HALL);
        round(x);
        long before = allocated();
        for (int k = 0; k < ROUNDS; k++) {
            round(x);
        }
        long made = allocated() - before;
        // Looking itself may make a few objects, but not one a call.
        Checks.holds("bytes made by " + ROUNDS + " rounds of calls: " + made, made < 4 * ROUNDS);
        before = allocated();
        for (int k = 0; k < ROUNDS; k++) {
            x = new CalledNumbers();
        }
        made = (allocated() - before) / ROUNDS;
        Checks.holds("bytes made by a new object: " + made, x.count(0) == 0 && made < 8000);
        Checks.end();
    }

    private static long allocated() {
        return THREADS.getThreadAllocatedBytes(Thread.currentThread().getId());
    }

    private static void round(CalledNumbers x) {
        x.hall(3);
        x.fault(3);
        x.row(0, 4);
        x.row(1, 0);
        x.text(0, 60);
        x.put(0, 3, 4);
        x.lay(0, 0, 3);
        x.lay(0, 1, 1);
        x.lay(0, 2, 5);
        x.lay(0, 3, 1);
        x.copy(0, 0, 0, 1, 2);
        x.mean(0);
        x.call(1);
        x.rub(0, 3);
        x.keep(0);
        x.run(0);
        x.safe();
        x.fewest(1, 2);
        x.most(4, 2);
        x.which(0, 3);
        x.kinds(0, 0);
        x.next(0, 1);
        x.duel(0, 2, 2);
        x.odds(0, 3);
        x.mid(1, 3);
        x.lots(20, 7);
        x.undo(3);
        x.on(0);
        x.mark(0, 5);
        x.player(0, 4);
        x.hears(0, 1, 2, 3);
        x.tear(2);
        x.digest();
    }
}
