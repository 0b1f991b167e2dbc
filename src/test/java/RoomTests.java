import com.sun.management.ThreadMXBean;
import java.lang.management.ManagementFactory;

/** What a run makes: rows in the constructor, and nothing in any call after it. */
public final class RoomTests {
    private static final Check CHECK = new Check("RoomTests");
    private static final ThreadMXBean THREADS = (ThreadMXBean) ManagementFactory.getThreadMXBean();
    private static final int CALLS = 512;
    // Elements of eight bytes at most: this is a fifth of the 7.3 million that a run may use.
    private static final long MOST_BYTES_OF_AN_OBJECT = 1_460_000L * 8;
    // Measuring itself makes some bytes; 512 calls that made one row of 16 each would make far more.
    private static final long MOST_BYTES_OF_ALL_CALLS = 4096;

    public static void main(String[] args) {
        run();
        CHECK.promise("the room of one run");
        for (int i = 0; i < 3; i++) {
            run();
        }
        CHECK.end();
    }

    private static long bytesSoFar() {
        return THREADS.getThreadAllocatedBytes(Thread.currentThread().getId());
    }

    private static void run() {
        long start = bytesSoFar();
        TextRopes x = new TextRopes();
        long made = bytesSoFar();
        CHECK.holds("a small object, but " + (made - start) + " bytes", made - start <= MOST_BYTES_OF_AN_OBJECT);
        made = bytesSoFar();
        int calls = deepText(x);
        for (; calls < CALLS; calls++) {
            dearCall(x, calls);
        }
        long end = bytesSoFar();
        CHECK.holds("calls that make nothing, but " + (end - made) + " bytes", end - made <= MOST_BYTES_OF_ALL_CALLS);
        CHECK.holds("a text at the end", x.length() > 0);
    }

    private static int deepText(TextRopes x) {
        x.setBalancing(0);
        x.setLeafSize(2);
        x.type('b');
        x.type('c');
        x.insert(0);
        x.cut(0, 2);
        x.type('a');
        x.insert(0);
        x.copy(0, 1);
        int calls = 9;
        for (; calls < 270; calls++) {
            x.paste(x.length(), calls % 2);
        }
        x.type('a');
        return calls + 1;
    }

    private static void dearCall(TextRopes x, int call) {
        switch (call % 12) {
            case 0, 5 -> x.replaceAll();
            case 1 -> x.move(call % 100, call % 100 + 3, x.length() - 200);
            case 2 -> x.cut(x.length() - 100, x.length() - 99);
            case 3 -> x.paste(x.length() - 50, 0);
            case 4 -> x.digest();
            case 6 -> x.undo();
            case 7 -> x.keep(call % 3);
            case 8 -> x.copy(100, x.length() - 100);
            case 9 -> x.difference(0);
            case 10 -> x.goBack(0);
            default -> x.leaf(100, 2);
        }
    }
}
