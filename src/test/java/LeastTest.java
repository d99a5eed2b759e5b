/** Promises 9, 10 and 16: least, set, combine. */
public final class LeastTest {
    private static final int NONE = PrefixLeader.NONE;
    private static final int[] NO_BOOKS = {-1, 6, Integer.MIN_VALUE, Integer.MAX_VALUE};

    public static void main(String[] args) {
        leastOfFew();
        leastBeside();
        leastByTwins();
        leastOfNested();
        leastOfNowhere();
        leastOfAll();
        set();
        wrongCalls();
        combine();
        combineOntoItself();
        tooMany();
        Due.end();
    }

    private static void dueLines(String text, PrefixLeader leader, int b, int[][] lines) {
        Due.is(text + ": count", leader.count(b), lines.length);
        for (int i = 0; i < lines.length; i++) {
            Due.is(text + ": address " + i, leader.line(b, i, 0), Integer.toUnsignedLong(lines[i][0]));
            Due.is(text + ": n " + i, leader.line(b, i, 1), lines[i][1]);
            Due.is(text + ": goal " + i, leader.line(b, i, 2), lines[i][2]);
        }
    }

    private static void leastOfFew() {
        PrefixLeader leader = new PrefixLeader();
        leader.put(0, 0, 0, 7);
        leader.put(0, 0, 1, 7);
        leader.put(0, 0, 32, 7);
        Due.is("one goal", leader.least(0, 1), 1);
        dueLines("one goal", leader, 1, new int[][] {{0, 0, 7}});
        Due.is("onto itself", leader.least(0, 0), 1);
        dueLines("onto itself", leader, 0, new int[][] {{0, 0, 7}});
        leader.put(2, 0, 1, 9);
        leader.put(2, 0x80000000, 1, 3);
        leader.least(2, 3);
        dueLines("the least goal goes up", leader, 3, new int[][] {{0, 0, 3}, {0, 1, 9}});
        dueLines("its source stays", leader, 2, new int[][] {{0, 1, 9}, {0x80000000, 1, 3}});
    }

    /** What hangs beside a line two bits below another needs a line of its own. */
    private static void leastBeside() {
        PrefixLeader leader = new PrefixLeader();
        leader.put(0, 0, 2, 5);
        leader.put(0, 0x40000000, 2, 1);
        leader.put(0, 0x80000000, 1, 5);
        leader.put(0, 0xC0000000, 2, 2);
        leader.least(0, 1);
        dueLines("beside", leader, 1, new int[][] {{0, 0, 5}, {0x40000000, 2, 1}, {0xC0000000, 2, 2}});
        leader.put(2, 0, 0, 4);
        leader.put(2, 0x00000001, 32, 16);
        leader.put(2, 0x00000002, 32, 3);
        leader.least(2, 3);
        dueLines("deep", leader, 3, new int[][] {{0, 0, 4}, {1, 32, 16}, {2, 32, 3}});
    }

    private static void leastByTwins() {
        PrefixLeader leader = new PrefixLeader();
        leader.put(0, 0, 0, 4);
        leader.put(0, 0x80000000, 1, 5);
        leader.copy(0, 1);
        leader.put(0, 0x40000000, 2, 5);
        leader.put(0, 0x60000000, 3, 6);
        leader.least(0, 0);
        dueLines("the lower twin", leader, 0, new int[][] {{0, 0, 5}, {0, 2, 4}, {0x60000000, 3, 6}});
        leader.put(1, 0, 2, 5);
        leader.put(1, 0x20000000, 3, 6);
        leader.least(1, 1);
        dueLines("the upper twin", leader, 1, new int[][] {{0, 0, 5}, {0x20000000, 3, 6}, {0x40000000, 2, 4}});
    }

    /** A line of each length, one in the other: no tree is deeper. */
    private static void leastOfNested() {
        PrefixLeader leader = new PrefixLeader();
        for (int n = 0; n <= 32; n++) {
            leader.put(0, 0, n, n == 32 ? 5 : n == 30 ? 2 : n % 2);
        }
        int lines = leader.least(0, 1);
        Due.is("nested: the same", leader.same(0, 1), 1);
        int place = leader.longest(1, 0);
        Due.is("nested: the deepest", leader.line(1, place, 1), 32);
        Due.is("nested: its goal", leader.line(1, place, 2), 5);
        Due.is("nested: again", leader.least(1, 2), lines);
        Due.is("nested: set", leader.set(0, 0, 31), 1 << 5 | 1 << 1);
    }

    private static void leastOfNowhere() {
        PrefixLeader leader = new PrefixLeader();
        Due.is("of none", leader.least(0, 1), 0);
        leader.put(0, 0, 0, 16);
        leader.put(0, 0x10000000, 8, 16);
        leader.put(1, 0, 0, 1);
        Due.is("of NOWHERE alone", leader.least(0, 1), 0);
        Due.is("in place of its own", leader.count(1), 0);
        leader.put(0, 0, 1, 2);
        leader.put(0, 0, 3, 16);
        leader.least(0, 1);
        dueLines("a line to NOWHERE", leader, 1, new int[][] {{0, 1, 2}, {0, 3, 16}});
    }

    private static void leastOfAll() {
        PrefixLeader leader = new PrefixLeader();
        for (int i = 0; i < 64; i++) {
            leader.put(0, i << 26, 6, i % 2);
            leader.put(1, i << 1, 32, i % 16);
        }
        Due.is("by turns", leader.least(0, 2), 33);
        Due.is("first", leader.line(2, 0, 1), 0);
        Due.is("first's goal", leader.line(2, 0, 2), 0);
        Due.is("second", leader.line(2, 1, 0), 1L << 26);
        Due.is("the same", leader.same(0, 2), 1);
        Due.is("none can go", leader.least(1, 1), 64);
    }

    private static void set() {
        PrefixLeader leader = new PrefixLeader();
        leader.put(0, 0, 2, 0);
        leader.put(0, 0x40000000, 2, 15);
        leader.put(0, 0x80000000, 3, 15);
        Due.is("one goal", leader.set(0, 0, 2), 1);
        Due.is("below it", leader.set(0, 0x10000000, 5), 1);
        Due.is("all of both", leader.set(0, 0, 1), 1 | 1 << 15);
        Due.is("with NOWHERE", leader.set(0, 0x80000000, 2), 1 << 15 | 1 << 16);
        Due.is("two up, what is beside", leader.set(0, 0x80000000, 1), 1 << 16);
        Due.is("the empty one", leader.set(0, 0, 0), 1 | 1 << 15 | 1 << 16);
        Due.is("an address led", leader.set(0, 0x5FFFFFFF, 32), 1 << 15);
        Due.is("an address not led", leader.set(0, -1, 32), 1 << 16);
        leader.put(0, 0, 0, 3);
        Due.is("beside is led now", leader.set(0, 0x80000000, 2), 1 << 15 | 1 << 3);
        Due.is("no line", leader.set(1, 0, 17), 1 << 16);
    }

    private static void wrongCalls() {
        PrefixLeader leader = new PrefixLeader();
        leader.put(0, 0, 0, 1);
        for (int b : NO_BOOKS) {
            Due.is("least of " + b, leader.least(b, 0), NONE);
            Due.is("least to " + b, leader.least(0, b), NONE);
            Due.is("set of " + b, leader.set(b, 0, 0), NONE);
            Due.is("combine " + b, leader.combine(0, b, 0, 0), NONE);
            Due.is("combine with " + b, leader.combine(0, 0, b, 0), NONE);
            Due.is("combine to " + b, leader.combine(0, 0, 0, b), NONE);
        }
        for (int n : new int[] {-1, 33, Integer.MIN_VALUE, Integer.MAX_VALUE}) {
            Due.is("set, n " + n, leader.set(0, 0, n), NONE);
        }
        Due.is("set, another bit", leader.set(0, 0x00000001, 31), NONE);
        Due.is("set, the first bit", leader.set(0, 0x80000000, 0), NONE);
        for (int how : new int[] {-1, 3, Integer.MIN_VALUE, Integer.MAX_VALUE}) {
            Due.is("combine, how " + how, leader.combine(how, 1, 1, 0), NONE);
        }
        dueLines("it stays", leader, 0, new int[][] {{0, 0, 1}});
    }

    private static void combine() {
        PrefixLeader leader = new PrefixLeader();
        leader.put(0, 0, 1, 1);
        leader.put(0, 0x20000000, 3, 16);
        leader.put(1, 0, 0, 2);
        leader.put(1, 0, 3, 1);
        leader.put(1, 0xC0000000, 2, 16);
        Due.is("joined", leader.combine(0, 0, 1, 2), 3);
        dueLines("joined", leader, 2, new int[][] {{0, 1, 1}, {0x20000000, 3, 2}, {0x80000000, 2, 2}});
        Due.is("met", leader.combine(1, 0, 1, 2), 1);
        dueLines("met", leader, 2, new int[][] {{0, 3, 1}});
        Due.is("less", leader.combine(2, 1, 0, 2), 2);
        dueLines("less", leader, 2, new int[][] {{0x20000000, 3, 2}, {0x80000000, 2, 2}});
        Due.is("less, the other way", leader.combine(2, 0, 1, 2), 0);
        Due.is("less itself", leader.combine(2, 1, 1, 2), 0);
        dueLines("a stays", leader, 0, new int[][] {{0, 1, 1}, {0x20000000, 3, 16}});
        Due.is("b stays", leader.count(1), 3);
    }

    private static void combineOntoItself() {
        PrefixLeader leader = new PrefixLeader();
        leader.put(0, 0, 1, 1);
        leader.put(1, 0x80000000, 1, 1);
        Due.is("onto a", leader.combine(0, 0, 1, 0), 1);
        dueLines("onto a", leader, 0, new int[][] {{0, 0, 1}});
        Due.is("onto b", leader.combine(2, 0, 1, 1), 1);
        dueLines("onto b", leader, 1, new int[][] {{0, 1, 1}});
    }

    private static void tooMany() {
        PrefixLeader leader = new PrefixLeader();
        for (int i = 0; i < 64; i++) {
            leader.put(0, i << 4, 32, 1);
            leader.put(1, 0x40000000 | i << 4, 32, 2);
        }
        leader.put(2, 0, 0, 5);
        Due.is("128 lines", leader.combine(0, 0, 1, 2), -2);
        dueLines("it stays", leader, 2, new int[][] {{0, 0, 5}});
        Due.is("less", leader.combine(2, 0, 1, 3), 64);
        Due.is("the same", leader.same(0, 3), 1);
        Due.is("less, the other way", leader.combine(2, 1, 0, 3), 64);
        Due.is("the same", leader.same(1, 3), 1);
        leader.copy(0, 3);
        Due.is("too many onto a", leader.combine(0, 0, 1, 0), -2);
        Due.is("a stays", leader.same(0, 3), 1);
        leader.copy(4, 1);
        leader.put(1, 0x40000000, 32, 2);
        Due.is("65 lines", leader.combine(0, 0, 1, 2), -2);
        leader.drop(0, 0, 32);
        Due.is("64 lines", leader.combine(0, 0, 1, 2), 64);
    }
}
