import com.sun.management.ThreadMXBean;
import java.lang.management.ManagementFactory;

/** The calls of a run share one room: an object takes its rows when it is made, and its calls make nothing. */
public final class RoomTest {
    private static final Checks CHECK = new Checks("RoomTest");
    private static final int CALLS = 512;
    private static final long ROOM_OF_AN_OBJECT = 32_000;
    // What the measuring itself may take.
    private static final long ROOM_OF_MEASURING = 2_000;
    private static final ThreadMXBean THREADS = (ThreadMXBean) ManagementFactory.getThreadMXBean();

    public static void main(String[] args) {
        long id = Thread.currentThread().getId();
        if (!THREADS.isThreadAllocatedMemorySupported()) {
            System.out.println("RoomTest: this machine does not tell what a thread takes");
            return;
        }
        GearObservatory warm = full();
        allCalls(warm);
        long start = THREADS.getThreadAllocatedBytes(id);
        GearObservatory x = new GearObservatory();
        long made = THREADS.getThreadAllocatedBytes(id) - start;
        CHECK.yes("a new object takes " + made + " bytes", made < ROOM_OF_AN_OBJECT + x.gearCount());
        GearObservatory measured = full();
        start = THREADS.getThreadAllocatedBytes(id);
        for (int i = 0; i < CALLS; i++) {
            allCalls(measured);
        }
        long taken = THREADS.getThreadAllocatedBytes(id) - start;
        CHECK.yes("512 rounds of calls take " + taken + " bytes", taken < ROOM_OF_MEASURING);
        CHECK.end();
    }

    private static GearObservatory full() {
        GearObservatory x = new GearObservatory();
        for (int gear = 0; gear < 10; gear++) {
            x.addGear(17 + gear);
            if (gear > 0) {
                x.mesh(gear - 1, gear, 5);
            }
        }
        for (int i = 0; i < 4; i++) {
            x.addWheel(2 * i, 12);
        }
        for (int i = 0; i < 7; i++) {
            x.addStar(500 * i, 7 * i);
        }
        return x;
    }

    private static void allCalls(GearObservatory x) {
        x.turn(0, -60);
        x.follow(1, 3);
        x.passHours(5);
        x.catalogue('a', 1);
        x.changedSince('a', 1);
        x.forget('a', 1);
        x.part(3, 4);
        x.mesh(4, 3, 5);
        x.isConsistent();
        x.trainCount();
        x.trainCountByUnions();
        x.freePlayByTurning(0, 9);
        x.ratioNumeratorByChain(9, 0);
        x.teethToFollow(0, 1);
        x.alignedFraction(10);
        x.writeGear(4);
        x.nearestStar(77);
        x.feed('h');
        x.feed('o');
        x.feed('u');
        x.feed('r');
        x.feed(' ');
        x.feed('1');
        x.execute();
        x.undo();
        x.save();
        x.restore();
    }
}
