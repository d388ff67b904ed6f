import com.sun.management.ThreadMXBean;
import java.lang.management.ManagementFactory;

/** The room that the calls of a run share: a new object is small, and no call makes anything. */
public final class RoomTest {
    private static final long BYTES_OF_AN_OBJECT = 40_000, BYTES_OF_ALL_CALLS = 4_000;

    public static void main(String[] args) {
        ThreadMXBean threads = (ThreadMXBean) ManagementFactory.getThreadMXBean();
        long me = Thread.currentThread().getId();
        // once ahead, as the machine itself makes things when it sees code for the first time
        allCalls(new QuarryBlends());
        threads.getThreadAllocatedBytes(me);
        long before = threads.getThreadAllocatedBytes(me);
        QuarryBlends x = new QuarryBlends();
        long made = threads.getThreadAllocatedBytes(me);
        allCalls(x);
        long after = threads.getThreadAllocatedBytes(me);
        System.out.println("an object takes " + (made - before) + " bytes, its calls " + (after - made));
        Checks.due("a new object is small", made - before <= BYTES_OF_AN_OBJECT ? 1 : 0, 1);
        Checks.due("calls make nothing", after - made <= BYTES_OF_ALL_CALLS ? 1 : 0, 1);
        Checks.end();
    }

    private static void allCalls(QuarryBlends x) {
        x.set(QuarryBlends.HOURS, 24);
        for (int round = 0; round < 3; round++) {
            x.face(9999, 1 + round % 9, 1 + round % 12);
            x.contract(500, 0, 100 - round, 0, 100 - round, 9);
            x.pass(1);
            x.then(30, 1);
            x.bestGap(30, 0);
            x.leastTrucks(30, 12);
            x.put('m' << 8 | '1');
            x.fault();
            x.wipe();
            x.put(('g' << 24) + ('7' << 16) + (';' << 8) + 'm');
            x.carryOut();
            x.save(round % 2);
            x.restore(round % 2);
            x.undo();
            x.mend();
            x.drop(99);
            for (int what = 0; what < 19; what++) {
                x.count(what);
                x.ofFace(0, what);
                x.ofContract(0, what);
                x.truck(0, what);
                x.bin(what);
                x.waiting(what);
            }
        }
    }
}
