import com.sun.management.ThreadMXBean;
import java.lang.management.ManagementFactory;

/**
 * What the calls of one run make lives in one room of some 7.3 million fields and elements, of four bytes and
 * more each: what an object makes in its 512 calls is measured, whatever they are.
 */
final class RoomTest {
    private static final ThreadMXBean THREADS = (ThreadMXBean) ManagementFactory.getThreadMXBean();

    public static void main(String[] args) {
        Checks checks = new Checks("RoomTest");
        new DrawingMachine().run(1);
        long before = made();
        DrawingMachine machine = new DrawingMachine();
        atMost(checks, "a new object", made() - before, 50_000);
        before = made();
        for (int i = 0; i < 512; i++) {
            machine.frame(1 + i % 128, 1 + i / 4, 8);
        }
        atMost(checks, "frames of all sizes", made() - before, 500_000);
        DrawingMachine fed = new DrawingMachine();
        before = made();
        for (int i = 0; i < 511; i++) {
            fed.feed(22, 22, 22, 22, 22);
        }
        fed.run(2000);
        atMost(checks, "a long stream", made() - before, 50_000);
        draws(checks);
        checks.finish();
    }

    private static long made() {
        return THREADS.getThreadAllocatedBytes(Thread.currentThread().getId());
    }

    private static void atMost(Checks checks, String what, long made, long most) {
        checks.due(what + " made " + made + " bytes, which is at most " + most, made <= most ? 1 : 0, 1);
    }

    private static void draws(Checks checks) {
        Rig rig = new Rig();
        rig.coverAll(16, 16);
        rig.placesProgram(Rig.join(
            Rig.set(33, 1, false, Rig.target(Rig.TO_OUT, 0, Rig.ALL), Rig.source(Rig.IN, 0)), Rig.stop()));
        rig.say(12, 6, 7, 1, 1, 0, 0, 17, 0, 0, 300, 20, 0, 0, 16, 16, 0, 0);
        DrawingMachine machine = rig.machine;
        long before = made();
        for (int i = 0; i < 40; i++) {
            machine.begin(true);
            machine.run(5);
            machine.sum(0);
        }
        atMost(checks, "draws of a hundred triangles", made() - before, 2_000);
    }
}
