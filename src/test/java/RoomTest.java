import java.lang.management.ManagementFactory;

/** No call makes an object: what a whole run of the dearest calls takes from memory is next to nothing. */
public final class RoomTest {
    private static final int CALLS = 20000;
    private static int sum = 0;

    private static void dearCalls(SplitBehind x, int i) {
        // "x60" and "y60"
        x.feed(i % 2 == 0 ? 0x78363061 : 0x79363061, 0, 0, 0, 0);
        sum += x.work(3);
        // "k"
        x.feed(0x6B000000, 0, 0, 0, 0);
        sum += x.law(1);
        sum += x.grown(99, 4) + x.tuned(i % 2) + x.torn(i % 2, 1, 0) + x.enough(1) + x.anew(64, 3);
        sum += x.passed(0) + x.bits(0, 3, 4) + x.alike(1) + x.since(3) + x.reach(0) + x.tell(0) + x.ends(0) + x.scan();
        sum += x.split() + x.join() + x.put(i & 65535, 7) + x.find(i) + x.drop(i + 1 & 65535) + x.next(0) + x.check(0);
        sum += x.keep() + (x.undo() ? 1 : 0) + x.signs(0) + x.parted(1, 2) + x.keyIs(3, 2) + x.finds(0) + x.costing(1);
    }

    public static void main(String[] args) {
        var threads = (com.sun.management.ThreadMXBean) ManagementFactory.getThreadMXBean();
        long id = Thread.currentThread().getId();
        SplitBehind x = new SplitBehind();
        for (int i = 0; i < 200; i++) dearCalls(x, i);
        long before = threads.getThreadAllocatedBytes(id);
        for (int i = 0; i < CALLS / 20; i++) dearCalls(x, i);
        long taken = threads.getThreadAllocatedBytes(id) - before;
        long begin = threads.getThreadAllocatedBytes(id);
        SplitBehind y = new SplitBehind();
        long made = threads.getThreadAllocatedBytes(id) - begin;
        sum += y.count(0);
        System.out.println(taken + " bytes taken by " + CALLS / 20 + " rounds of calls, " + made + " by a new object");
        // a round that made but one object would take 16 bytes each time
        if (taken > 10 * CALLS / 20 || made > 150000) {
            System.out.println("that is too much");
            System.exit(1);
        }
    }
}
