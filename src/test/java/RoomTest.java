import com.sun.management.ThreadMXBean;
import java.lang.management.ManagementFactory;

/** The dearest runs make next to nothing beside the object itself. */
public final class RoomTest {
    private static final Check CHECK = new Check();
    private static final ThreadMXBean THREADS = (ThreadMXBean) ManagementFactory.getThreadMXBean();
    private static final long OBJECT_LIMIT = 24_000;
    private static final long RUN_LIMIT = 60_000;

    public static void main(String[] args) {
        String[] texts = {
            "#x" + "f".repeat(198) + "/" + "e".repeat(199),
            "#e-" + "7".repeat(388) + "e-1233",
            "#e1e1233",
            "#i" + "3".repeat(190) + "/" + "7".repeat(190),
            "2.2250738585072011e-308",
            "1" + "0".repeat(380) + "e-700",
        };
        for (String text : texts) {
            run(text);
        }
        long before = allocated();
        DoubleTexts x = new DoubleTexts();
        long made = allocated() - before;
        CHECK.same("a new object makes " + made + " bytes, few", made < OBJECT_LIMIT, true);
        CHECK.same("and is empty", x.kind(), 0);
        for (String text : texts) {
            before = allocated();
            run(text);
            made = allocated() - before;
            CHECK.same("a run with " + text + " makes " + made + " bytes, few", made < RUN_LIMIT, true);
        }
        CHECK.end();
    }

    private static long allocated() {
        return THREADS.getThreadAllocatedBytes(Thread.currentThread().getId());
    }

    private static void run(String text) {
        DoubleTexts x = Check.typed(text);
        for (int left = 511 - text.length(); left >= 5; left -= 5) {
            x.read();
            x.write(2);
            x.write(10);
            x.inexact();
            x.write(10);
        }
    }
}
