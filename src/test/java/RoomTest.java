import java.lang.management.ManagementFactory;

/** All calls of a run live in one room: even the dearest calls, 512 times, make next to nothing anew. */
final class RoomTest {
    private static final int CALLS = 480;
    private static final long BYTES_OF_AN_OBJECT = 40_000;
    private static final long BYTES_OF_A_SEARCH = 200_000;

    private interface Part {
        int call(FloorPlans x);
    }

    public static void main(String[] args) {
        Due due = new Due("RoomTest");
        within(due, "a new object", BYTES_OF_AN_OBJECT, null);
        within(due, "best seatings", BYTES_OF_AN_OBJECT, x -> x.best(1025 | 34, 127, 0));
        within(due, "rows of moves", BYTES_OF_A_SEARCH, x -> x.move(16, 2, 1));
        within(due, "kept floors", BYTES_OF_AN_OBJECT, x -> x.kept(19, 0));
        within(due, "least desks", BYTES_OF_AN_OBJECT, x -> x.least(0, 0));
        within(due, "a bill and all else", BYTES_OF_AN_OBJECT, x -> x.bill(3) + x.fit() + x.walked() + x.turn(0));
        due.end();
    }

    private static FloorPlans house() {
        FloorPlans x = new FloorPlans();
        for (int t = 0; t < 16; t++) {
            x.team(5 + t % 3, 0, 0, 9);
            x.sit(t, t % 4);
        }
        for (int t = 0; t < 6; t++) {
            x.target(t, (t + 1) % 4);
        }
        return x;
    }

    private static long allocated() {
        return ((com.sun.management.ThreadMXBean) ManagementFactory.getThreadMXBean()).getCurrentThreadAllocatedBytes();
    }

    private static void within(Due due, String name, long bytes, Part part) {
        run(part);
        long ahead = allocated();
        run(part);
        long made = allocated() - ahead;
        due.is(name + " made " + made + " bytes, too many", made <= bytes ? 1 : 0, 1);
    }

    private static void run(Part part) {
        FloorPlans x = house();
        for (int i = 0; i < CALLS && part != null; i++) {
            part.call(x);
        }
    }
}
