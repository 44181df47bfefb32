import java.lang.management.ManagementFactory;

/** All calls of a run live in one room: an object is small, and its calls make nothing. */
public final class RoomTest {
    private static final Check CHECK = new Check();
    private static final int OBJECTS = 50;

    private RoomTest() {
    }

    public static void main(String[] args) {
        // Once ahead, so that what the machine makes for itself at first is not counted.
        bytesOfCalls(new ForceFrames());
        long before = bytes();
        ForceFrames[] made = new ForceFrames[OBJECTS];
        for (int i = 0; i < OBJECTS; i++) {
            made[i] = new ForceFrames();
        }
        long each = (bytes() - before) / OBJECTS;
        System.out.println("bytes of an object: " + each);
        CHECK.holds("an object takes at most 16 KB, it took " + each, each < 16384);
        long calls = bytesOfCalls(made[0]);
        System.out.println("bytes of some 500 calls: " + calls);
        CHECK.holds("calls make nothing, they made bytes: " + calls, calls < 4096);
        CHECK.end();
    }

    private static long bytes() {
        return ((com.sun.management.ThreadMXBean) ManagementFactory.getThreadMXBean())
            .getThreadAllocatedBytes(Thread.currentThread().getId());
    }

    private static long bytesOfCalls(ForceFrames x) {
        bytes();
        long before = bytes();
        x.sheet(0, 2, 24);
        for (int turn = 0; turn < 16; turn++) {
            Check.tell(x, "00,50,05,11,22;01,12,02,03,13");
            x.bar(2, 3);
            x.move(4, 2, 1);
            x.weight(0, turn % 9);
            x.drift(40);
            for (int what = 0; what < 9; what++) {
                x.count(what);
            }
            x.fail(3, 0);
            x.stress(0, 0, 0);
            x.pull(0, 0);
            x.round(0, 1);
            x.point(0, 0, 0);
            x.plane(0, 0, 0);
            x.height(0, 0);
            x.corner(0, 1, 0, 0);
            x.image();
            x.undo();
            x.restore();
            x.film(0, 2, 1);
            x.what(0, 2, 1);
            x.item(0, 2, 0, 7);
            x.copy(0, 0, 0, 1, 20);
            x.sheet(1, 3, 24);
            x.drop(1);
            x.lose(0);
        }
        return bytes() - before;
    }
}
