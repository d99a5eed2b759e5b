/** Promises 22 and 23: nodes, steps. */
public final class TreesTest {
    private static final int NONE = PrefixLeader.NONE;

    public static void main(String[] args) {
        noLines();
        pressed();
        strides();
        strideEdges();
        mostNodes();
        wrongCalls();
        Due.end();
    }

    private static void dueNodes(String text, PrefixLeader leader, int b, long[] due) {
        for (int what = 0; what < 4; what++) {
            Due.is(text + ": nodes, what " + what, leader.nodes(b, what), due[what]);
        }
    }

    private static void noLines() {
        PrefixLeader leader = new PrefixLeader();
        dueNodes("no lines", leader, 0, new long[] {1, 1, 1, 0});
        Due.is("steps", leader.steps(0, -1), 1);
        leader.put(0, 0, 0, 1);
        dueNodes("the empty one", leader, 0, new long[] {1, 1, 1, 0});
    }

    private static void pressed() {
        PrefixLeader leader = new PrefixLeader();
        leader.put(0, 0x12340000, 16, 1);
        Due.is("a line and the empty one", leader.nodes(0, 0), 2);
        leader.put(0, 0x12350000, 16, 1);
        Due.is("where they part", leader.nodes(0, 0), 4);
        leader.put(0, 0x12340000, 15, 1);
        Due.is("where they part is a line", leader.nodes(0, 0), 4);
        leader.put(0, 0x12340000, 32, 1);
        Due.is("below a line", leader.nodes(0, 0), 5);
        leader.put(0, 0x80000000, 1, 1);
        Due.is("the empty one parts", leader.nodes(0, 0), 6);
    }

    private static void strides() {
        PrefixLeader leader = new PrefixLeader();
        leader.put(0, 0xFC000000, 7, 1);
        leader.put(0, 0xF8000000, 13, 1);
        leader.put(0, 0xF8100000, 13, 1);
        leader.put(0, 0xF8080000, 13, 1);
        dueNodes("strides", leader, 0, new long[] {8, 5, 3, 0xF8000000L});
        Due.is("steps of the deepest", leader.steps(0, 0xF8000001), 3);
        Due.is("steps of another deepest", leader.steps(0, 0xF8180000), 3);
        Due.is("steps beside", leader.steps(0, 0xF8200000), 2);
        Due.is("steps of the flat", leader.steps(0, -1), 2);
        Due.is("steps elsewhere", leader.steps(0, 0), 1);
        leader.drop(0, 0xF8000000, 13);
        leader.drop(0, 0xF8080000, 13);
        Due.is("the least that does", leader.nodes(0, 3), 0xF8100000L);
    }

    private static void strideEdges() {
        for (int n = 0; n <= 32; n++) {
            PrefixLeader leader = new PrefixLeader();
            int address = n == 0 ? 0 : -1 << 32 - n;
            leader.put(0, address, n, 1);
            int most = n == 0 ? 1 : (n - 1) / 6 + 1;
            int bits = (most - 1) * 6;
            Due.is("nodes, n " + n, leader.nodes(0, 1), most);
            Due.is("most, n " + n, leader.nodes(0, 2), most);
            long least = bits == 0 ? 0 : Integer.toUnsignedLong(-1 << 32 - bits);
            Due.is("least, n " + n, leader.nodes(0, 3), least);
            Due.is("steps, n " + n, leader.steps(0, -1), most);
            Due.is("steps of 0, n " + n, leader.steps(0, 0), 1);
        }
    }

    private static void mostNodes() {
        PrefixLeader leader = new PrefixLeader();
        for (int i = 0; i < 64; i++) {
            leader.put(0, 0x80000000 | i << 20, 32, 1);
        }
        dueNodes("most", leader, 0, new long[] {128, 2 + 4 * 64, 6, 0x80000000L});
    }

    private static void wrongCalls() {
        PrefixLeader leader = new PrefixLeader();
        for (int b : new int[] {-1, 6, Integer.MIN_VALUE, Integer.MAX_VALUE}) {
            for (int what = 0; what < 4; what++) {
                Due.is("nodes " + b, leader.nodes(b, what), NONE);
            }
            Due.is("steps " + b, leader.steps(b, 0), NONE);
        }
        for (int what : new int[] {-1, 4, Integer.MIN_VALUE, Integer.MAX_VALUE}) {
            Due.is("nodes, what " + what, leader.nodes(0, what), NONE);
        }
    }
}
