/** Promises 19 to 21: way, step, led. */
public final class WayTest {
    private static final int NONE = PrefixLeader.NONE;
    private static final int NOWHERE = PrefixLeader.NOWHERE;

    public static void main(String[] args) {
        noneYet();
        way();
        asTheyWere();
        refused();
        longWay();
        neverAstray();
        Due.end();
    }

    private static void noneYet() {
        PrefixLeader leader = new PrefixLeader();
        Due.is("no step yet", leader.step(0, 0), NONE);
        Due.is("nowhere led yet", leader.led(0, 0), NONE);
        Due.is("k -1 yet", leader.led(-1, 0), NONE);
        Due.is("of none", leader.way(0, 1), 0);
        Due.is("led now", leader.led(0, 0), NOWHERE);
        Due.is("no first", leader.step(0, 0), NONE);
    }

    private static PrefixLeader twoBooks() {
        PrefixLeader leader = new PrefixLeader();
        leader.put(0, 0, 0, 1);
        leader.put(0, 0, 1, 2);
        leader.put(0, 0x80000000, 4, 3);
        leader.put(0, 0x10000000, 4, 4);
        leader.put(0, 0xF0000000, 5, 5);
        leader.put(1, 0, 1, 6);
        leader.put(1, 0x80000000, 1, 7);
        leader.put(1, 0xF0000000, 5, 5);
        leader.put(1, 0xFF000000, 8, 16);
        leader.put(1, 0x01000000, 8, 8);
        return leader;
    }

    private static void dueSteps(String text, PrefixLeader leader, long[][] steps) {
        for (int i = 0; i < steps.length; i++) {
            for (int what = 0; what < 4; what++) {
                Due.is(text + ": step " + i + ", what " + what, leader.step(i, what), steps[i][what]);
            }
        }
        Due.is(text + ": behind the last", leader.step(steps.length, 0), NONE);
    }

    private static void way() {
        PrefixLeader leader = twoBooks();
        long[][] due = {
            {1, 0x01000000L, 8, 8}, {1, 0xFF000000L, 8, 16}, {1, 0, 1, 6}, {1, 0x80000000L, 1, 7},
            {0, 0, 0, 1}, {0, 0x10000000L, 4, 4}, {0, 0x80000000L, 4, 3},
        };
        Due.is("way", leader.way(0, 1), 7);
        dueSteps("way", leader, due);
        int[] before = {2, 8, 8, 8, 8, 8, 8, 8};
        int[] lower = {2, 2, 2, 6, 6, 6, 6, 6};
        int[] nowhere = {1, 1, 16, 16, 16, 16, 16, 16};
        int[] dropped = {4, 4, 4, 4, 4, 4, 6, 6};
        int[] upper = {3, 3, 3, 3, 3, 3, 3, 7};
        int[] kept = {5, 5, 5, 5, 5, 5, 5, 5};
        for (int k = 0; k <= 7; k++) {
            Due.is("led " + k, leader.led(k, 0x01000001), before[k]);
            Due.is("led " + k + " lower", leader.led(k, 0), lower[k]);
            Due.is("led " + k + " to NOWHERE", leader.led(k, -1), nowhere[k]);
            Due.is("led " + k + " dropped", leader.led(k, 0x10000000), dropped[k]);
            Due.is("led " + k + " upper", leader.led(k, 0x80000000), upper[k]);
            Due.is("led " + k + " kept", leader.led(k, 0xF0000000), kept[k]);
        }
        for (int k : new int[] {-1, 8, Integer.MIN_VALUE, Integer.MAX_VALUE}) {
            Due.is("led " + k, leader.led(k, 0), NONE);
        }
        for (int wrong : new int[] {-1, 7, Integer.MIN_VALUE, Integer.MAX_VALUE}) {
            Due.is("step " + wrong, leader.step(wrong, 0), NONE);
            Due.is("step, what " + wrong, leader.step(0, wrong), NONE);
        }
        Due.is("step, what 4", leader.step(0, 4), NONE);
    }

    private static void asTheyWere() {
        PrefixLeader leader = twoBooks();
        leader.way(0, 1);
        leader.copy(5, 0);
        leader.copy(5, 1);
        Due.is("a as it was", leader.led(0, 0x10000000), 4);
        Due.is("b as it was", leader.led(7, -1), 16);
        Due.is("its step", leader.step(6, 3), 3);
        Due.is("the latest", leader.way(0, 1), 0);
        Due.is("led by none", leader.led(0, 0x10000000), NOWHERE);
        Due.is("the earlier has gone", leader.step(0, 0), NONE);
    }

    private static void refused() {
        PrefixLeader leader = twoBooks();
        leader.way(0, 1);
        for (int b : new int[] {-1, 6, Integer.MIN_VALUE, Integer.MAX_VALUE}) {
            Due.is("way from " + b, leader.way(b, 0), NONE);
            Due.is("way to " + b, leader.way(0, b), NONE);
        }
        Due.is("the way stays", leader.step(6, 1), 0x80000000L);
        Due.is("led by it", leader.led(7, 0x80000000), 7);
    }

    private static void longWay() {
        PrefixLeader leader = new PrefixLeader();
        for (int i = 0; i < 64; i++) {
            leader.put(0, 2 * i, 32, 1);
            leader.put(1, 2 * i + 1, 32, 2);
        }
        Due.is("128 steps", leader.way(0, 1), 128);
        Due.is("the last put", leader.step(63, 1), 127);
        Due.is("the first dropped", leader.step(64, 1), 0);
        Due.is("the last dropped", leader.step(127, 1), 126);
        Due.is("128 lines between, a's", leader.led(64, 126), 1);
        Due.is("128 lines between, b's", leader.led(64, 127), 2);
        Due.is("at the end, a's", leader.led(128, 126), NOWHERE);
        Due.is("at the end, b's", leader.led(128, 127), 2);
        Due.is("not so many", leader.led(129, 127), NONE);
        leader.copy(0, 2);
        leader.put(2, 0, 32, 9);
        Due.is("another goal alone", leader.way(0, 2), 1);
        Due.is("it is put", leader.step(0, 0), 1);
    }

    /** At each step an address is led as by the one book or as by the other. */
    private static void neverAstray() {
        for (int k = 0; k <= 7; k++) {
            // An object is for 512 calls, so each number of steps has its own.
            PrefixLeader leader = twoBooks();
            leader.way(0, 1);
            for (int address = 0; address < 128; address++) {
                int got = leader.led(k, address << 25);
                boolean right = got == leader.find(0, address << 25) || got == leader.find(1, address << 25);
                Due.is("led(" + k + ", " + address + " << 25) by a or b, " + got, right, true);
            }
        }
    }
}
