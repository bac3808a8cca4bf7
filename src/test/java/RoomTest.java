import com.sun.management.ThreadMXBean;
import java.lang.management.ManagementFactory;
import java.util.function.IntConsumer;

/**
 * All calls of one run live in one room: 512 calls of the dearest kinds, and new objects, must make little that is new.
 * A made element takes at most eight bytes here, an object or a row some sixteen more.
 */
public final class RoomTest {
    private static final Check CHECK = new Check("RoomTest");
    private static final int CALLS = 512;
    private static final long OBJECT_BYTES = 40_000;
    private static final long RUN_BYTES = 2_100_000;
    private static final ThreadMXBean BEAN = (ThreadMXBean) ManagementFactory.getThreadMXBean();

    public static void main(String[] args) {
        new ChordWords().many(6);
        atMost("a new object", OBJECT_BYTES * 10, i -> new ChordWords(), 10);
        ChordWords apart = Check.loaded("points 7;");
        atMost("models of seven apart", RUN_BYTES / 2, i -> apart.many(6), CALLS);
        atMost("and their letters", 4096, i -> apart.letter(i * 150, i % 14), CALLS);
        atMost("and where more fit", 4096, i -> apart.could(i % 128), 20);
        atMost("and the like", 4096, i -> apart.beside(i % 6, 6), 20);
        atMost("and turned", RUN_BYTES / 2, i -> apart.turned(i, i % 7), CALLS);
        ChordWords drawn = new ChordWords();
        atMost("a drawn network after another", RUN_BYTES, i -> askAll(drawn, i), CALLS);
        atMost("samples", 4096, i -> drawn.sample(i, 7, 40, i % 4), CALLS);
        ChordWords wheel = Check.loaded("points 6;line 0 1;line 1 2;line 2 3;line 3 4;line 0 4;line 0 5;line 1 5;"
                + "line 2 5;line 3 5;line 4 5;");
        atMost("obstructions", 65536, i -> wheel.obstructions(), CALLS);
        CHECK.end();
    }

    private static void askAll(ChordWords x, int i) {
        x.shuffle(i, 7);
        x.many(4);
        x.many(5);
        x.many(7);
        x.twins(3);
        x.plain();
        x.turned(0, 0);
        x.mean(0, 0);
        x.paintings(9);
        x.undo();
    }

    private static void atMost(String what, long bytes, IntConsumer call, int times) {
        long thread = Thread.currentThread().getId();
        long before = BEAN.getThreadAllocatedBytes(thread);
        for (int i = 0; i < times; i++) {
            call.accept(i);
        }
        long made = BEAN.getThreadAllocatedBytes(thread) - before;
        CHECK.due(what + ", " + times + " times, made " + made + " bytes: at most " + bytes, made <= bytes, true);
    }
}
