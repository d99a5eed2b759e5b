/** Promises 17 and 18: cover, piece. */
public final class CoverTest {
    private static final int NONE = PrefixLeader.NONE;

    public static void main(String[] args) {
        PrefixLeader leader = new PrefixLeader();
        Due.is("none yet", leader.piece(0, 0), NONE);
        dueCover(leader, 0, -1, new long[][] {{0, 0}});
        dueCover(leader, 0, 0, new long[][] {{0, 32}});
        dueCover(leader, -1, -1, new long[][] {{4294967295L, 32}});
        dueCover(leader, 3, 17, new long[][] {{3, 32}, {4, 30}, {8, 29}, {16, 31}});
        dueCover(leader, 0, 0x7FFFFFFF, new long[][] {{0, 1}});
        dueCover(leader, 0x80000000, -1, new long[][] {{0x80000000L, 1}});
        dueCover(leader, 0x7FFFFFFF, 0x80000000, new long[][] {{0x7FFFFFFFL, 32}, {0x80000000L, 32}});
        dueCover(leader, 0x0A000000, 0x0A0100FF, new long[][] {{0x0A000000L, 16}, {0x0A010000L, 24}});
        refused(leader);
        most(leader);
        Due.end();
    }

    private static void dueCover(PrefixLeader leader, int f, int t, long[][] pieces) {
        String call = "cover(" + f + ", " + t + ")";
        Due.is(call, leader.cover(f, t), pieces.length);
        for (int i = 0; i < pieces.length; i++) {
            Due.is(call + ", address " + i, leader.piece(i, 0), pieces[i][0]);
            Due.is(call + ", n " + i, leader.piece(i, 1), pieces[i][1]);
        }
        for (int i : new int[] {-1, pieces.length, 62, 64, Integer.MIN_VALUE, Integer.MAX_VALUE}) {
            Due.is(call + ", piece " + i, leader.piece(i, 0), NONE);
        }
        for (int what : new int[] {-1, 2, Integer.MIN_VALUE, Integer.MAX_VALUE}) {
            Due.is(call + ", what " + what, leader.piece(0, what), NONE);
        }
    }

    private static void refused(PrefixLeader leader) {
        leader.cover(4, 7);
        Due.is("t ahead of f", leader.cover(5, 4), NONE);
        Due.is("by their bits", leader.cover(-1, 1), NONE);
        Due.is("by their first bit", leader.cover(0x80000000, 0x7FFFFFFF), NONE);
        Due.is("the cover stays", leader.piece(0, 0), 4);
        Due.is("the cover stays", leader.piece(0, 1), 30);
    }

    private static void most(PrefixLeader leader) {
        Due.is("the most", leader.cover(1, -2), 62);
        for (int i = 0; i < 31; i++) {
            Due.is("going up " + i, leader.piece(i, 0), 1L << i);
            Due.is("going up, n " + i, leader.piece(i, 1), 32 - i);
            Due.is("going down " + i, leader.piece(61 - i, 0), 4294967296L - (2L << i));
            Due.is("going down, n " + i, leader.piece(61 - i, 1), 32 - i);
        }
    }
}
