/** An object with something of everything in it, and all that an object tells of what it holds. */
final class Scene {
    static final int NONE = PrefixLeader.NONE;
    static final int NOWHERE = PrefixLeader.NOWHERE;
    static final long LAST = 4294967295L;
    static final long ALL = 4294967296L;
    static final int LOW = Integer.MIN_VALUE;
    static final int HIGH = Integer.MAX_VALUE;
    static final int[] NO_BOOKS = {-1, 6, LOW, HIGH};

    /** One call of an object; a boolean counts 1 or 0. */
    interface Call {
        long on(PrefixLeader leader);
    }

    private Scene() {
    }

    /** Books 0, 1 and 3 with LINES, 2, 4 and 5 without, a COVER of four and a WAY of four. */
    static PrefixLeader made() {
        PrefixLeader leader = new PrefixLeader();
        leader.put(0, 0, 0, 1);
        leader.put(0, 0x80000000, 1, 2);
        leader.put(0, 0xFFFFFFFF, 32, 16);
        leader.put(1, 0, 4, 3);
        leader.put(1, 0x80000000, 1, 4);
        leader.put(3, 0x7FFFFFFF, 32, 5);
        leader.cover(3, 17);
        leader.way(0, 1);
        return leader;
    }

    /** The answers of all calls that tell what an object holds. */
    static String told(PrefixLeader leader) {
        StringBuilder text = new StringBuilder();
        for (int b = 0; b < 6; b++) {
            text.append("book ").append(b).append(lines(leader, b)).append('\n');
        }
        return text.append("cover").append(cover(leader)).append("\nway").append(way(leader)).toString();
    }

    static String lines(PrefixLeader leader, int b) {
        StringBuilder text = new StringBuilder();
        int size = leader.count(b);
        for (int i = 0; i < size; i++) {
            text.append(' ').append(leader.line(b, i, 0)).append('/').append(leader.line(b, i, 1));
            text.append("->").append(leader.line(b, i, 2));
        }
        return text.toString();
    }

    static String spans(PrefixLeader leader, int b) {
        StringBuilder text = new StringBuilder();
        int size = leader.spans(b);
        for (int i = 0; i < size; i++) {
            text.append(' ').append(leader.span(b, i, 0)).append("..").append(leader.span(b, i, 1));
            text.append("->").append(leader.span(b, i, 2));
        }
        return text.toString();
    }

    static String cover(PrefixLeader leader) {
        StringBuilder text = new StringBuilder();
        for (int i = 0; leader.piece(i, 0) != NONE && i < 100; i++) {
            text.append(' ').append(leader.piece(i, 0)).append('/').append(leader.piece(i, 1));
        }
        return text.toString();
    }

    static String way(PrefixLeader leader) {
        StringBuilder text = new StringBuilder();
        for (int i = 0; leader.step(i, 0) != NONE && i < 200; i++) {
            text.append(leader.step(i, 0) == 1 ? " +" : " -").append(leader.step(i, 1)).append('/');
            text.append(leader.step(i, 2)).append("->").append(leader.step(i, 3));
            for (int address : new int[] {0, 0x7FFFFFFF, 0x80000000, -1}) {
                text.append(',').append(leader.led(i + 1, address));
            }
        }
        return text.toString();
    }

    /** "A call that is refused (NONE, false) changes nothing": it answers so on a new scene, and all stays. */
    static void changesNothing(String text, Call call, long answer) {
        PrefixLeader leader = made();
        Due.is(text, call.on(leader), answer);
        Due.is(text + ": changes nothing", told(leader), told(made()));
    }
}
