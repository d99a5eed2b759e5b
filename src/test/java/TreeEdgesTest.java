/** The edges that THE PRESSED TREE, THE STRIDES and promises 22 and 23 name: nodes, steps. */
public final class TreeEdgesTest {
    private static final int NONE = Scene.NONE;

    public static void main(String[] args) {
        aNodeForEachLine();
        aNodeForTheEmptyOne();
        aNodeWhereLinesPart();
        mostPressedNodes();
        aStrideForALineOfMoreBits();
        theEmptyStride();
        eachStrideOnce();
        eachStrideOnceInTheUpperHalf();
        aLineThatHasGone();
        aFullBookOfFewBits();
        mostStrides();
        theMostSteps();
        theLeastAddressThatDoes();
        stepsAtTheEdges();
        goalsDoNotMatter();
        nodesRefused();
        stepsRefused();
        Due.end();
    }

    private static PrefixLeader withLines(int[]... lines) {
        PrefixLeader leader = new PrefixLeader();
        for (int[] line : lines) {
            leader.put(0, line[0], line[1], 1);
        }
        return leader;
    }

    private static void duePressed(String text, int nodes, int[]... lines) {
        Due.is(text, withLines(lines).nodes(0, 0), nodes);
    }

    /** "a node for each LINE's BEGINNING" */
    private static void aNodeForEachLine() {
        for (int n = 1; n <= 32; n++) {
            duePressed("one of n " + n, 2, new int[] {-1 << 32 - n, n});
        }
        PrefixLeader leader = new PrefixLeader();
        for (int n = 0; n <= 32; n++) {
            leader.put(0, 0, n, 1);
            Due.is("one in the other, to n " + n, leader.nodes(0, 0), n + 1);
        }
    }

    /** "for the empty one" */
    private static void aNodeForTheEmptyOne() {
        duePressed("without LINES", 1);
        duePressed("it is a LINE too", 1, new int[] {0, 0});
        duePressed("it is where LINES part too", 3, new int[] {0, 1}, new int[] {0x80000000, 1});
        duePressed("it is all three", 3, new int[] {0, 0}, new int[] {0, 32}, new int[] {-1, 32});
    }

    /** "and for each p with LINES that begin with p0 and such that begin with p1" */
    private static void aNodeWhereLinesPart() {
        duePressed("at 31 bits", 4, new int[] {0, 32}, new int[] {1, 32});
        duePressed("at 31 bits, the last", 4, new int[] {-1, 32}, new int[] {-2, 32});
        duePressed("at 31 bits, a LINE", 4, new int[] {0, 31}, new int[] {0, 32}, new int[] {1, 32});
        duePressed("at 1 bit", 4, new int[] {0x80000000, 32}, new int[] {-1, 32});
        duePressed("at 1 bit, p0 and p1 are LINES", 4, new int[] {0x80000000, 2}, new int[] {0xC0000000, 2});
        duePressed("one below the other parts from none", 3, new int[] {0x80000000, 2}, new int[] {0x80000000, 32});
        duePressed("on two levels", 6, new int[] {0, 32}, new int[] {1, 32}, new int[] {0x40000000, 32});
    }

    private static void mostPressedNodes() {
        PrefixLeader leader = new PrefixLeader();
        for (int i = 0; i < 64; i++) {
            leader.put(0, 0x80000000 | i, 32, 1);
            leader.put(1, i << 26, 6, 1);
        }
        Due.is("64 LINES, 63 where they part, the empty one", leader.nodes(0, 0), 128);
        Due.is("the empty one parts too", leader.nodes(1, 0), 127);
    }

    /** "a node for each BEGINNING of 0, 6, .. or 30 bits with which a LINE of more bits begins" */
    private static void aStrideForALineOfMoreBits() {
        int[] due = {1, 1, 1, 1, 1, 1, 1, 2, 2, 2, 2, 2, 2, 3, 3, 3, 3, 3, 3, 4, 4, 4, 4, 4, 4, 5, 5, 5, 5, 5, 5, 6, 6};
        for (int n = 0; n <= 32; n++) {
            PrefixLeader leader = withLines(new int[] {n == 0 ? 0 : -1 << 32 - n, n});
            Due.is("nodes, n " + n, leader.nodes(0, 1), due[n]);
            Due.is("most STEPS, n " + n, leader.nodes(0, 2), due[n]);
            Due.is("STEPS of the last, n " + n, leader.steps(0, -1), due[n]);
            Due.is("STEPS of the first, n " + n, leader.steps(0, 0), 1);
        }
    }

    /** "and the empty one" */
    private static void theEmptyStride() {
        PrefixLeader leader = withLines();
        long[] due = {1, 1, 1, 0};
        for (int what = 0; what < 4; what++) {
            Due.is("without LINES, what " + what, leader.nodes(0, what), due[what]);
        }
        leader.put(0, 0, 0, 1);
        for (int what = 0; what < 4; what++) {
            Due.is("the empty LINE, what " + what, leader.nodes(0, what), due[what]);
        }
        leader.put(0, 0x80000000, 1, 1);
        Due.is("a LINE of one bit", leader.nodes(0, 1), 1);
        Due.is("its least", leader.nodes(0, 3), 0);
    }

    private static void eachStrideOnce() {
        PrefixLeader leader = withLines(new int[] {0, 7}, new int[] {0, 8}, new int[] {0x02000000, 7});
        Due.is("three LINES below one", leader.nodes(0, 1), 2);
        leader.put(0, 0x04000000, 7, 1);
        Due.is("and one below the next", leader.nodes(0, 1), 3);
        leader.put(0, 0x04000000, 6, 1);
        Due.is("it is a LINE too", leader.nodes(0, 1), 3);
        leader.put(0, 0x08000000, 6, 1);
        Due.is("a LINE alone is none", leader.nodes(0, 1), 3);
        leader.put(0, 0, 32, 1);
        Due.is("four more below", leader.nodes(0, 1), 7);
        leader.put(0, 1, 32, 1);
        Due.is("beside it", leader.nodes(0, 1), 7);
        leader.put(0, 4, 31, 1);
        Due.is("beside its 30 bits", leader.nodes(0, 1), 8);
    }

    private static void eachStrideOnceInTheUpperHalf() {
        PrefixLeader leader = withLines(new int[] {0x80000000, 13}, new int[] {0x80080000, 13}, new int[] {0xFC000000, 7});
        Due.is("two LINES below one, and another", leader.nodes(0, 1), 4);
        leader.put(0, -2, 31, 1);
        leader.put(0, -1, 32, 1);
        Due.is("four more below", leader.nodes(0, 1), 8);
    }

    private static void aLineThatHasGone() {
        PrefixLeader leader = withLines(new int[] {0, 6}, new int[] {-1, 32});
        leader.drop(0, -1, 32);
        long[] due = {2, 1, 1, 0};
        for (int what = 0; what < 4; what++) {
            Due.is("the deepest has gone, what " + what, leader.nodes(0, what), due[what]);
        }
        Due.is("its STEPS", leader.steps(0, -1), 1);
        leader.drop(0, 0, 6);
        due[0] = 1;
        for (int what = 0; what < 4; what++) {
            Due.is("all have gone, what " + what, leader.nodes(0, what), due[what]);
        }
    }

    private static void aFullBookOfFewBits() {
        PrefixLeader leader = new PrefixLeader();
        for (int i = 0; i < 64; i++) {
            leader.put(0, i << 26, 6, 1);
        }
        long[] due = {127, 1, 1, 0};
        for (int what = 0; what < 4; what++) {
            Due.is("64 LINES of 6 bits, what " + what, leader.nodes(0, what), due[what]);
        }
        Due.is("STEPS of the last", leader.steps(0, -1), 1);
        leader.drop(0, 0xFC000000, 6);
        leader.put(0, 0xFC000000, 7, 1);
        long[] deeper = {127, 2, 2, 0xFC000000L};
        for (int what = 0; what < 4; what++) {
            Due.is("the last of 7 bits, what " + what, leader.nodes(0, what), deeper[what]);
        }
        Due.is("STEPS of the last", leader.steps(0, -1), 2);
        Due.is("STEPS of one ahead", leader.steps(0, 0xFBFFFFFF), 1);
    }

    private static void mostStrides() {
        PrefixLeader leader = new PrefixLeader();
        for (int i = 0; i < 64; i++) {
            leader.put(0, i << 26 | 3, 32, 1);
        }
        Due.is("64 times five, and the empty one", leader.nodes(0, 1), 321);
        Due.is("the most STEPS", leader.nodes(0, 2), 6);
        Due.is("the least that does", leader.nodes(0, 3), 0);
    }

    /** 22: "2 the most STEPS an ADDRESS takes" */
    private static void theMostSteps() {
        PrefixLeader leader = withLines(new int[] {0, 7}, new int[] {0x80000000, 13}, new int[] {0xC0000000, 12});
        Due.is("of the deepest", leader.nodes(0, 2), 3);
        leader.put(0, -1, 32, 1);
        Due.is("of one that is deeper", leader.nodes(0, 2), 6);
        leader.drop(0, -1, 32);
        leader.drop(0, 0x80000000, 13);
        Due.is("without them", leader.nodes(0, 2), 2);
    }

    /** 22: "3 the least ADDRESS that does" */
    private static void theLeastAddressThatDoes() {
        for (int n = 0; n <= 32; n++) {
            PrefixLeader leader = withLines(new int[] {n == 0 ? 0 : -1 << 32 - n, n});
            int bits = n == 0 ? 0 : (n - 1) / 6 * 6;
            long least = bits == 0 ? 0 : Scene.ALL - (Scene.ALL >> bits);
            Due.is("n " + n, leader.nodes(0, 3), least);
            Due.is("it does, n " + n, leader.steps(0, (int) least), leader.nodes(0, 2));
            if (least > 0) {
                Due.is("one ahead does not, n " + n, leader.steps(0, (int) least - 1) < leader.nodes(0, 2), true);
            }
        }
        PrefixLeader leader = withLines(new int[] {-1, 32}, new int[] {0x80000004, 32}, new int[] {0x7FFFFFFF, 32});
        Due.is("of three", leader.nodes(0, 3), 0x7FFFFFFCL);
        leader.drop(0, 0x7FFFFFFF, 32);
        Due.is("of two", leader.nodes(0, 3), 0x80000004L);
        leader.drop(0, 0x80000004, 32);
        Due.is("the last", leader.nodes(0, 3), 0xFFFFFFFCL);
        leader = withLines(new int[] {0, 12}, new int[] {0x40000000, 6}, new int[] {0x80000000, 13});
        Due.is("not that of a LINE of 12 bits", leader.nodes(0, 3), 0x80000000L);
    }

    /** "An ADDRESS takes so many STEPS as there are nodes of THE STRIDES with which it begins." */
    private static void stepsAtTheEdges() {
        PrefixLeader leader = withLines(new int[] {0xA5A5A5A5, 32});
        for (int depth = 6; depth <= 30; depth += 6) {
            int mask = -1 << 32 - depth;
            int first = 0xA5A5A5A5 & mask;
            int last = first | ~mask;
            int steps = depth / 6 + 1;
            Due.is("the first, " + depth, leader.steps(0, first) >= steps, true);
            Due.is("the last, " + depth, leader.steps(0, last) >= steps, true);
            Due.is("one ahead, " + depth, leader.steps(0, first - 1) < steps, true);
            Due.is("one behind, " + depth, leader.steps(0, last + 1) < steps, true);
            Due.is("its last bit turned, " + depth, leader.steps(0, 0xA5A5A5A5 ^ 1 << 32 - depth), steps - 1);
            Due.is("the next bit turned, " + depth, leader.steps(0, 0xA5A5A5A5 ^ 1 << 31 - depth), depth == 30 ? 6 : steps);
        }
        Due.is("itself", leader.steps(0, 0xA5A5A5A5), 6);
        Due.is("the first ADDRESS", leader.steps(0, 0), 1);
        Due.is("the last ADDRESS", leader.steps(0, -1), 1);
    }

    private static void goalsDoNotMatter() {
        PrefixLeader leader = new PrefixLeader();
        leader.put(0, 0, 0, 16);
        leader.put(0, 0, 32, 16);
        long[] due = {2, 6, 6, 0};
        for (int what = 0; what < 4; what++) {
            Due.is("LINES to NOWHERE, what " + what, leader.nodes(0, what), due[what]);
        }
    }

    /** 22: "NONE: no such BOOK, what." */
    private static void nodesRefused() {
        for (int what = 0; what < 4; what++) {
            int told = what;
            for (int b : Scene.NO_BOOKS) {
                Scene.changesNothing("nodes of book " + b, leader -> leader.nodes(b, told), NONE);
            }
        }
        for (int what : new int[] {-1, 4, Scene.LOW, Scene.HIGH}) {
            Scene.changesNothing("nodes, what " + what, leader -> leader.nodes(0, what), NONE);
        }
    }

    /** 23: "NONE: no such BOOK." */
    private static void stepsRefused() {
        for (int b : Scene.NO_BOOKS) {
            Scene.changesNothing("steps of book " + b, leader -> leader.steps(b, 0), NONE);
        }
    }
}
