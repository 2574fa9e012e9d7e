import com.sun.management.ThreadMXBean;
import java.lang.management.ManagementFactory;
import java.util.function.IntConsumer;

/** All calls of a run live in one room, of some 600,000 objects with 7.3 million fields and elements in all. */
public final class RoomTest {
    private static final int CALLS = 512;
    /** The least that so many objects and fields can come to: 8 bytes for each object, 4 for each field. */
    private static final long MOST_BYTES = 600_000L * 8 + 7_300_000L * 4;

    private static final ThreadMXBean THREADS = (ThreadMXBean) ManagementFactory.getThreadMXBean();

    private RoomTest() {
    }

    private static ClauseWatch prepared() {
        ClauseWatch x = new ClauseWatch();
        x.set(0, 9);
        for (String text : new String[] {"1,2,-3;-1,4,5;-4,-5,6", "6,7,8;-7,-8,9;-6,-9", "3,5,-9;1,-2,8;-3,-7,8"}) {
            Due.reads(x, text);
        }
        x.step(12);
        return x;
    }

    private static long bytes() {
        return THREADS.getThreadAllocatedBytes(Thread.currentThread().getId());
    }

    private static long room(IntConsumer call) {
        long before = bytes();
        for (int i = 0; i < CALLS; i++) {
            call.accept(i);
        }
        return bytes() - before;
    }

    private static void dueRoom(String name, IntConsumer call) {
        room(call);
        long most = Math.min(room(call), room(call));
        Due.due(name + ": " + most + " bytes fit", most <= MOST_BYTES ? 1 : 0, 1);
    }

    private static void changes() {
        ClauseWatch x = prepared();
        dueRoom("set", i -> x.set(i % 3, 1));
        ClauseWatch y = prepared();
        dueRoom("step", i -> y.step(500));
        dueRoom("step and back", i -> {
            y.step(3);
            y.back(0);
        });
        dueRoom("read and drop", i -> {
            y.put('1');
            y.read();
            y.drop(0);
        });
        dueRoom("undo", i -> {
            y.step(1);
            y.undo();
        });
        dueRoom("save and restore", i -> {
            y.save(i % 2);
            y.restore(i % 2);
        });
    }

    private static void questions() {
        ClauseWatch x = prepared();
        dueRoom("of", i -> x.of(i % 11, i % 5));
        dueRoom("trail", x::trail);
        dueRoom("clause", i -> x.clause(i % 20, i % 13));
        dueRoom("count", x::count);
        dueRoom("answers", i -> x.answers());
        dueRoom("inAnswers", i -> x.inAnswers(1 + i % 9, i % 2));
        dueRoom("follows", i -> x.follows(i % 20));
        dueRoom("needless", i -> x.needless());
        dueRoom("searched", i -> x.searched(i % 2, 0));
        dueRoom("ifTold", i -> x.ifTold(1 + i % 9));
        dueRoom("fault", i -> x.fault());
        dueRoom("put and wipe", i -> {
            x.put(0x312C323B332C3439L);
            x.wipe();
        });
    }

    private static void newObject() {
        new ClauseWatch();
        long before = bytes();
        ClauseWatch x = new ClauseWatch();
        long made = bytes() - before;
        Due.due("a new object: " + made + " bytes fit", made <= MOST_BYTES && x.count(7) == 4 ? 1 : 0, 1);
    }

    public static void main(String[] args) {
        newObject();
        changes();
        questions();
        Due.end("RoomTest");
    }
}
