/** The edges that COVERS and promises 17 and 18 name: cover, piece. */
public final class CoverEdgesTest {
    private static final int NONE = Scene.NONE;

    public static void main(String[] args) {
        oneBeginningOfEachLength();
        oneAddress();
        asFewAsCanBe();
        theFirstAndTheLastAddress();
        theMost();
        tAheadOfF();
        noneYet();
        theLatestAlone();
        theLatestStays();
        pieceForOthers();
        Due.end();
    }

    private static void dueCover(String text, int f, int t, String pieces) {
        PrefixLeader leader = new PrefixLeader();
        int size = leader.cover(f, t);
        Due.is(text, Scene.cover(leader), pieces);
        Due.is(text + ": how many", size, pieces.chars().filter(c -> c == '/').count());
        Due.is(text + ": none behind the last", leader.piece(size, 0), NONE);
        Due.is(text + ": no n behind the last", leader.piece(size, 1), NONE);
    }

    /** "BEGINNINGS that have just these": a span that is one BEGINNING's. */
    private static void oneBeginningOfEachLength() {
        for (int n = 0; n <= 32; n++) {
            int mask = n == 0 ? 0 : -1 << 32 - n;
            int first = 0xA5A5A5A5 & mask;
            dueCover("n " + n, first, first | ~mask, " " + Integer.toUnsignedString(first) + "/" + n);
            dueCover("the first, n " + n, 0, ~mask, " 0/" + n);
            dueCover("the last, n " + n, mask, -1, " " + Integer.toUnsignedString(mask) + "/" + n);
        }
    }

    private static void oneAddress() {
        for (int address : new int[] {0, 1, 0x7FFFFFFF, 0x80000000, -2, -1}) {
            dueCover("f is t", address, address, " " + Integer.toUnsignedString(address) + "/32");
        }
    }

    /** "as few as can be, in order of ADDRESSES" */
    private static void asFewAsCanBe() {
        dueCover("a pair", 2, 3, " 2/31");
        dueCover("no pair", 1, 2, " 1/32 2/32");
        dueCover("across the middle", 0x7FFFFFFF, 0x80000000, " 2147483647/32 2147483648/32");
        dueCover("around the middle", 0x7FFFFFFE, 0x80000001, " 2147483646/31 2147483648/31");
        dueCover("up and down", 3, 17, " 3/32 4/30 8/29 16/31");
    }

    private static void theFirstAndTheLastAddress() {
        dueCover("all", 0, -1, " 0/0");
        dueCover("all but the last ones", 0, 0xBFFFFFFF, " 0/1 2147483648/2");
        dueCover("all but the first ones", 0x40000000, -1, " 1073741824/2 2147483648/1");
        PrefixLeader leader = new PrefixLeader();
        Due.is("all but the last", leader.cover(0, -2), 32);
        Due.is("its first", leader.piece(0, 1), 1);
        Due.is("its last", leader.piece(31, 0), Scene.LAST - 1);
        Due.is("all but the first", leader.cover(1, -1), 32);
        Due.is("its first", leader.piece(0, 0), 1);
        Due.is("its last", leader.piece(31, 0), 0x80000000L);
        Due.is("its last's n", leader.piece(31, 1), 1);
    }

    /** No COVER has more BEGINNINGS than that of all but the first and the last ADDRESS. */
    private static void theMost() {
        PrefixLeader leader = new PrefixLeader();
        Due.is("the most", leader.cover(1, -2), 62);
        long next = 1;
        for (int i = 0; i < 62; i++) {
            Due.is("piece " + i, leader.piece(i, 0), next);
            Due.is("piece " + i + ", n", leader.piece(i, 1), i < 31 ? 32 - i : i - 29);
            next += Scene.ALL >> leader.piece(i, 1);
        }
        Due.is("up to the last but one", next, Scene.LAST);
        Due.is("none behind it", leader.piece(62, 0), NONE);
    }

    /** 17: "NONE: t is ahead of f." */
    private static void tAheadOfF() {
        int[][] spans = {{1, 0}, {-1, 0}, {-1, -2}, {0x80000000, 0x7FFFFFFF}, {0x80000000, 0}, {-1, 0x7FFFFFFF}};
        for (int[] span : spans) {
            Scene.changesNothing("cover(" + span[0] + ", " + span[1] + ")", leader -> leader.cover(span[0], span[1]), NONE);
        }
        PrefixLeader leader = new PrefixLeader();
        Due.is("the first refused", leader.cover(1, 0), NONE);
        Due.is("there is none yet", leader.piece(0, 0), NONE);
    }

    /** 18: "the latest COVER", before there is one. */
    private static void noneYet() {
        PrefixLeader leader = new PrefixLeader();
        for (int i : new int[] {-1, 0, 1, 61, 62}) {
            Due.is("no piece " + i, leader.piece(i, 0), NONE);
            Due.is("no n of piece " + i, leader.piece(i, 1), NONE);
        }
    }

    private static void theLatestAlone() {
        PrefixLeader leader = new PrefixLeader();
        leader.cover(1, -2);
        leader.cover(3, 4);
        Due.is("fewer than the one before", Scene.cover(leader), " 3/32 4/32");
        leader.cover(3, 17);
        Due.is("more than the one before", Scene.cover(leader), " 3/32 4/30 8/29 16/31");
    }

    private static void theLatestStays() {
        PrefixLeader leader = Scene.made();
        String before = Scene.cover(leader);
        leader.put(0, 0, 5, 5);
        leader.least(0, 2);
        leader.combine(0, 0, 1, 3);
        leader.way(1, 0);
        leader.spans(0);
        leader.nodes(0, 0);
        Due.is("behind other calls", Scene.cover(leader), before);
    }

    /** 18: "what 0 its ADDRESS, 1 n; NONE for others." */
    private static void pieceForOthers() {
        for (int what = 0; what < 2; what++) {
            int told = what;
            for (int i : new int[] {-1, 4, 61, 62, 63, Scene.LOW, Scene.HIGH}) {
                Scene.changesNothing("piece " + i, leader -> leader.piece(i, told), NONE);
            }
        }
        for (int what : new int[] {-1, 2, Scene.LOW, Scene.HIGH}) {
            Scene.changesNothing("piece, what " + what, leader -> leader.piece(0, what), NONE);
        }
    }
}
