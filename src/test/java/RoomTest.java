import java.lang.management.ManagementFactory;

/** No call leaves objects behind it, and an object is small: all calls of a run live in one room. */
public final class RoomTest {
    private static final com.sun.management.ThreadMXBean THREADS =
            (com.sun.management.ThreadMXBean) ManagementFactory.getThreadMXBean();

    public static void main(String[] args) {
        PrefixLeader leader = new PrefixLeader();
        for (int i = 0; i < 64; i++) {
            leader.put(0, i << 26, 6, i % 16);
            leader.put(1, i << 3, 29 + i % 4, i % 3);
        }
        long answers = callAll(leader);
        long before = allocated();
        // As many rounds as keep the object within its 512 calls.
        for (int round = 0; round < 12; round++) {
            answers += callAll(leader);
        }
        long bytes = allocated() - before;
        // A look at the counter itself may make a little.
        Due.is("few bytes made by calls (" + bytes + ", answers " + answers + ")", bytes < 2000, true);
        before = allocated();
        PrefixLeader another = new PrefixLeader();
        bytes = allocated() - before;
        Due.is("bytes of an object (" + bytes + "), count " + another.count(0), bytes < 40000, true);
        Due.end();
    }

    private static long allocated() {
        return THREADS.getThreadAllocatedBytes(Thread.currentThread().getId());
    }

    private static long callAll(PrefixLeader leader) {
        long sum = leader.put(2, 0, 0, 5);
        sum += leader.drop(2, 0, 0) ? 1 : 0;
        sum += leader.copy(0, 3) + leader.count(3) + leader.line(3, 7, 0) + leader.find(0, -1);
        sum += leader.longest(0, -1) + leader.least(1, 4) + leader.set(1, 0, 0) + leader.spans(1);
        sum += leader.span(1, 3, 1) + leader.share(1, 1) + leader.same(0, 1) + leader.differ(0, 1, 1);
        sum += leader.combine(0, 0, 1, 5) + leader.combine(1, 0, 1, 5) + leader.combine(2, 1, 0, 5);
        sum += leader.cover(1, -2) + leader.piece(61, 0) + leader.way(0, 1) + leader.step(100, 1);
        sum += leader.led(100, 77) + leader.steps(1, 8);
        for (int what = 0; what < 4; what++) {
            sum += leader.nodes(1, what);
        }
        return sum;
    }
}
