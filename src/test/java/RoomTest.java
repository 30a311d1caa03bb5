import com.sun.management.ThreadMXBean;
import java.lang.management.ManagementFactory;

/** All calls of a run live in one room: an object takes little when it is made, and its calls take nothing more. */
public final class RoomTest {
    /** What an object takes by now is some 15,700 bytes. */
    private static final long BYTES_OF_A_STORE = 32_000;
    private static final ThreadMXBean THREADS = (ThreadMXBean) ManagementFactory.getThreadMXBean();
    private static int kept = 0;

    public static void main(String[] args) {
        long byObject = Long.MAX_VALUE;
        long byCalls = Long.MAX_VALUE;
        int calls = 0;
        // What the machine takes for itself, at first above all, comes on top in some of the times alone.
        for (int i = 0; i < 10; i++) {
            long start = THREADS.getCurrentThreadAllocatedBytes();
            WeftStore store = new WeftStore();
            long made = THREADS.getCurrentThreadAllocatedBytes();
            calls = callAll(store);
            long called = THREADS.getCurrentThreadAllocatedBytes();
            byObject = Math.min(byObject, made - start);
            byCalls = Math.min(byCalls, called - made);
        }
        Check.is("an object takes " + byObject + " bytes, which is little", byObject < BYTES_OF_A_STORE, true);
        Check.is("an object takes something", byObject > 0, true);
        Check.eq("the bytes that " + calls + " calls take", byCalls, 0);
        Check.is(calls + " calls are nearly 512", calls > 400 && calls <= 512, true);
        Check.end();
    }

    /** Calls of all methods, none of which throws; answers how many they were. */
    private static int callAll(WeftStore x) {
        int calls = callWrites(x) + callTransactions(x) + callPatterns(x);
        for (int n = 0; n < 20; n++) {
            kept += x.walk(n, 30) + x.crossings(n, 30) + x.mark(n) + x.least(n) + x.machine(n) + x.valueAt(n, 24);
            kept += x.reasons(n, 1, n + 1) + x.sizeAt(n);
        }
        kept += x.cut() + x.copies(0) + x.round(30) + x.shift() + x.move(1, 2) + x.time();
        x.dropEdge(1);
        x.dropNode(5);
        return calls + 20 * 8 + 8;
    }

    private static int callWrites(WeftStore x) {
        for (int n = 0; n < 24; n++) {
            kept += x.node(n % 4, n);
        }
        for (int e = 0; e < 50; e++) {
            kept += x.edge(e % 24, e % 3, (e + 1) % 24);
            kept += x.set(e % 24, e);
        }
        kept += x.key(1) ? 1 : 0;
        x.shape(3, 0, 1);
        return 24 + 2 * 50 + 2;
    }

    private static int callTransactions(WeftStore x) {
        for (int i = 0; i < 8; i++) {
            int t = x.begin();
            x.write(t, i, 100 + i);
            kept += x.link(t, i, 0, i + 1);
            x.unlink(t, 20 + i);
            kept += x.read(t, i) + x.sees(t, i) + x.commit(t, true);
        }
        return 8 * 7;
    }

    private static int callPatterns(WeftStore x) {
        for (int p = 0; p < 6; p++) {
            kept += x.rule(p % 3, 1, 2);
            kept += x.step(WeftStore.EDGE, p % 4) + x.step(WeftStore.MANY, 0) + x.step(WeftStore.BACK, 1);
            kept += x.step(WeftStore.EITHER, 0) + x.step(WeftStore.NODE, 0) + x.step(WeftStore.JOIN, 0) + x.pattern();
        }
        for (int p = 0; p < 6; p++) {
            for (int n = 0; n < 4; n++) {
                kept += x.answer(p, n) + x.answerAnew(p, n) + (x.isWhole(p, n) ? 1 : 0);
            }
            kept += x.pairs(p);
        }
        kept += x.toggle(1) ? 1 : 0;
        kept += x.toggle(1) ? 1 : 0;
        kept += x.inferred() + x.dropRule(0);
        return 6 * 8 + 6 * 13 + 4;
    }
}
