/** Promises 1 to 8: a new object, put, drop, copy, count, line, find, longest. */
public final class BooksTest {
    private static final int NONE = PrefixLeader.NONE;
    private static final int NOWHERE = PrefixLeader.NOWHERE;
    private static final int[] NO_BOOKS = {-1, 6, Integer.MIN_VALUE, Integer.MAX_VALUE};

    public static void main(String[] args) {
        newObject();
        put();
        wrongPut();
        fullBook();
        drop();
        copy();
        line();
        findAndLongest();
        noSuchBook();
        twoObjects();
        Due.end();
    }

    private static void newObject() {
        PrefixLeader leader = new PrefixLeader();
        for (int b = 0; b < 6; b++) {
            Due.is("new: count", leader.count(b), 0);
            Due.is("new: line", leader.line(b, 0, 0), NONE);
            Due.is("new: find", leader.find(b, 0), NOWHERE);
            Due.is("new: longest", leader.longest(b, -1), NONE);
        }
        Due.is("new: piece", leader.piece(0, 0), NONE);
        Due.is("new: step", leader.step(0, 0), NONE);
        Due.is("new: led", leader.led(0, 0), NONE);
    }

    private static void put() {
        PrefixLeader leader = new PrefixLeader();
        Due.is("put", leader.put(5, 0x80000000, 1, 0), 0);
        Due.is("put again", leader.put(5, 0x80000000, 1, 15), 1);
        Due.is("put to NOWHERE", leader.put(5, 0x80000000, 1, 16), 1);
        Due.is("count", leader.count(5), 1);
        Due.is("its goal", leader.line(5, 0, 2), 16);
        Due.is("more bits", leader.put(5, 0x80000000, 2, 1), 0);
        Due.is("the empty one", leader.put(5, 0, 0, 2), 0);
        Due.is("all bits", leader.put(5, -1, 32, 3), 0);
        Due.is("count", leader.count(5), 4);
        Due.is("other books stay", leader.count(4), 0);
    }

    private static void wrongPut() {
        PrefixLeader leader = new PrefixLeader();
        for (int b : NO_BOOKS) {
            Due.is("put, book " + b, leader.put(b, 0, 0, 0), NONE);
        }
        for (int n : new int[] {-1, 33, 64, Integer.MIN_VALUE, Integer.MAX_VALUE}) {
            Due.is("put, n " + n, leader.put(0, 0, n, 0), NONE);
        }
        for (int goal : new int[] {-1, 17, Integer.MIN_VALUE, Integer.MAX_VALUE}) {
            Due.is("put, goal " + goal, leader.put(0, 0, 4, goal), NONE);
        }
        for (int n = 0; n < 32; n++) {
            Due.is("put, bit behind " + n, leader.put(0, Integer.MIN_VALUE >>> n, n, 0), NONE);
            Due.is("put, last bit, n " + n, leader.put(0, 1, n, 0), NONE);
        }
        Due.is("nothing came", leader.count(0), 0);
    }

    private static void fullBook() {
        PrefixLeader leader = new PrefixLeader();
        for (int i = 0; i < 64; i++) {
            Due.is("put " + i, leader.put(0, 63 - i, 32, 1), 0);
        }
        Due.is("the 65th", leader.put(0, 64, 32, 1), NONE);
        Due.is("a full book's own", leader.put(0, 63, 32, 2), 1);
        Due.is("count", leader.count(0), 64);
        Due.is("another book", leader.put(1, 64, 32, 1), 0);
        Due.is("first", leader.line(0, 0, 0), 0);
        Due.is("last", leader.line(0, 63, 0), 63);
        Due.is("its goal", leader.line(0, 63, 2), 2);
        Due.is("find the 65th", leader.find(0, 64), NOWHERE);
        Due.is("drop", leader.drop(0, 5, 32), true);
        Due.is("room again", leader.put(0, 64, 32, 3), 0);
        Due.is("find", leader.find(0, 64), 3);
    }

    private static void drop() {
        PrefixLeader leader = new PrefixLeader();
        leader.put(2, 0, 8, 1);
        leader.put(2, 0, 9, 2);
        leader.put(2, 0x01000000, 8, 3);
        Due.is("other n", leader.drop(2, 0, 7), false);
        Due.is("other address", leader.drop(2, 0x02000000, 8), false);
        Due.is("other book", leader.drop(3, 0, 8), false);
        for (int b : NO_BOOKS) {
            Due.is("drop, book " + b, leader.drop(b, 0, 8), false);
        }
        for (int n : new int[] {-1, 33, 40, Integer.MIN_VALUE, Integer.MAX_VALUE}) {
            Due.is("drop, n " + n, leader.drop(2, 0, n), false);
        }
        Due.is("drop, another bit", leader.drop(2, 1, 8), false);
        Due.is("all stay", leader.count(2), 3);
        Due.is("drop", leader.drop(2, 0, 8), true);
        Due.is("drop again", leader.drop(2, 0, 8), false);
        Due.is("count", leader.count(2), 2);
        Due.is("first now", leader.line(2, 0, 1), 9);
        Due.is("second now", leader.line(2, 1, 2), 3);
    }

    private static void copy() {
        PrefixLeader leader = new PrefixLeader();
        leader.put(0, 0, 1, 4);
        leader.put(0, 0x40000000, 2, 5);
        leader.put(1, 0, 3, 6);
        Due.is("copy", leader.copy(0, 1), 2);
        Due.is("in place of its own", leader.count(1), 2);
        Due.is("line", leader.line(1, 1, 0), 0x40000000L);
        Due.is("onto itself", leader.copy(0, 0), 2);
        leader.put(0, 0, 0, 7);
        Due.is("apart from then on", leader.count(1), 2);
        for (int b : NO_BOOKS) {
            Due.is("copy from " + b, leader.copy(b, 0), NONE);
            Due.is("copy to " + b, leader.copy(0, b), NONE);
        }
        Due.is("it stays", leader.count(0), 3);
        Due.is("copy none", leader.copy(4, 0), 0);
        Due.is("empty now", leader.count(0), 0);
    }

    private static void line() {
        PrefixLeader leader = new PrefixLeader();
        int[][] lines = {{0, 0}, {0, 1}, {0, 32}, {1, 32}, {0x7FFFFFFF, 32}, {0x80000000, 1}, {0x80000000, 2}, {-1, 32}};
        for (int i : new int[] {7, 2, 4, 0, 6, 1, 5, 3}) {
            Due.is("put", leader.put(3, lines[i][0], lines[i][1], i), 0);
        }
        for (int i = 0; i < lines.length; i++) {
            Due.is("address of " + i, leader.line(3, i, 0), Integer.toUnsignedLong(lines[i][0]));
            Due.is("n of " + i, leader.line(3, i, 1), lines[i][1]);
            Due.is("goal of " + i, leader.line(3, i, 2), i);
        }
        for (int i : new int[] {-1, 8, 63, 64, Integer.MIN_VALUE, Integer.MAX_VALUE}) {
            Due.is("line " + i, leader.line(3, i, 0), NONE);
        }
        for (int what : new int[] {-1, 3, Integer.MIN_VALUE, Integer.MAX_VALUE}) {
            Due.is("line, what " + what, leader.line(3, 0, what), NONE);
        }
    }

    private static void findAndLongest() {
        PrefixLeader leader = new PrefixLeader();
        leader.put(0, 0x0A000000, 8, 1);
        leader.put(0, 0x0A010000, 16, 16);
        leader.put(0, 0x0A010200, 24, 3);
        leader.put(0, 0x0A010203, 32, 4);
        leader.put(0, 0x0B000000, 8, 5);
        int[][] due = {
            {0x0A010203, 4, 3}, {0x0A010204, 3, 2}, {0x0A010300, 16, 1}, {0x0A020000, 1, 0}, {0x0A00FFFF, 1, 0},
            {0x0AFFFFFF, 1, 0}, {0x0B000000, 5, 4}, {0x0BFFFFFF, 5, 4}, {0x0C000000, 16, NONE}, {0x09FFFFFF, 16, NONE},
            {0, 16, NONE}, {-1, 16, NONE},
        };
        for (int[] row : due) {
            Due.is("find " + Integer.toHexString(row[0]), leader.find(0, row[0]), row[1]);
            Due.is("longest " + Integer.toHexString(row[0]), leader.longest(0, row[0]), row[2]);
        }
        leader.put(0, 0, 0, 9);
        Due.is("find by the empty one", leader.find(0, -1), 9);
        Due.is("longest, the empty one", leader.longest(0, -1), 0);
        Due.is("longest, one place on", leader.longest(0, 0x0A010203), 4);
    }

    private static void noSuchBook() {
        PrefixLeader leader = new PrefixLeader();
        for (int b : NO_BOOKS) {
            Due.is("count " + b, leader.count(b), NONE);
            Due.is("line " + b, leader.line(b, 0, 0), NONE);
            Due.is("find " + b, leader.find(b, 0), NONE);
            Due.is("longest " + b, leader.longest(b, 0), NONE);
        }
    }

    private static void twoObjects() {
        PrefixLeader one = new PrefixLeader();
        PrefixLeader other = new PrefixLeader();
        one.put(0, 0, 0, 1);
        Due.is("objects are apart", other.count(0), 0);
    }
}
