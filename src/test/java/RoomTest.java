import com.sun.management.ThreadMXBean;
import java.lang.management.ManagementFactory;
import java.util.function.ToLongFunction;

/** All calls of one run live in one room: the dearest calls, 512 of each in the dearest state, take little of it. */
public final class RoomTest {
    private static final int CALLS = 512;
    /** Of 600,000 objects and 7.3 million fields and elements a run is to leave most free. */
    private static final long BYTES = 1_000_000;
    private static final ThreadMXBean THREADS = (ThreadMXBean) ManagementFactory.getThreadMXBean();
    private static final Check check = new Check();
    private static long answers = 0;

    public static void main(String[] args) {
        small("new object", x -> 0);
        small("at", x -> x.at(4, 4));
        small("pass", x -> x.pass(10));
        small("on", x -> x.on(60, 0));
        small("climb", x -> x.climb(1, 0, 0));
        small("order", x -> x.order(0, 15));
        small("hush", x -> x.hush(0));
        small("whole", x -> x.whole(0));
        small("knew", x -> x.knew(5, 0));
        small("firm", x -> x.firm(5, 0));
        small("who", x -> x.who());
        small("odds", x -> x.odds(0, 1, 0));
        small("done", x -> x.done(1));
        small("act", x -> x.act(4, 2, 7));
        small("image", x -> x.image());
        small("undo", x -> x.undo());
        small("valley", x -> x.valley());
        check.end();
    }

    private static AuntsInTurn dearest() {
        AuntsInTurn x = new AuntsInTurn();
        Check.valley(x, "nerve 99;bold 1 " + "!p=9&".repeat(16) + "h<9");
        for (int i = 0; i < 6; i++) {
            x.aunt(6, 9, 255);
        }
        for (int i = 0; i < 5; i++) {
            x.asker();
            x.say(i, x.says(0, i, 2));
        }
        for (int i = 0; i < 8; i++) {
            x.plan(0, 0);
        }
        x.image();
        Check.feed(x, "nerve 99;bold 1 " + "!p=9&".repeat(16) + "h<");
        return x;
    }

    private static void small(String call, ToLongFunction<AuntsInTurn> asks) {
        long before = THREADS.getCurrentThreadAllocatedBytes();
        AuntsInTurn x = dearest();
        for (int i = 0; i < CALLS; i++) {
            answers += asks.applyAsLong(x);
        }
        long took = THREADS.getCurrentThreadAllocatedBytes() - before;
        check.due(call + " took " + took + " bytes, above " + BYTES, took > BYTES ? 1 : 0, 0);
    }
}
