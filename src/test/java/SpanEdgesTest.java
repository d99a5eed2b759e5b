/** The edges that SPANS and promises 11 to 15 name: spans, span, share, same, differ. */
public final class SpanEdgesTest {
    private static final int NONE = Scene.NONE;

    public static void main(String[] args) {
        oneSpanOfAll();
        theLongestRows();
        thoseToNowhereToo();
        theFirstAndTheLastAddress();
        fewestAndMostSpans();
        spansOfNestedLines();
        spansRefused();
        spanForOthers();
        shareOfNoneAndAll();
        sharesMakeAll();
        shareRefused();
        sameOrNot();
        sameRefused();
        differAtTheEdges();
        differOfTheSame();
        differForOthers();
        Due.end();
    }

    private static PrefixLeader withLines(int[]... lines) {
        PrefixLeader leader = new PrefixLeader();
        for (int[] line : lines) {
            leader.put(0, line[0], line[1], line[2]);
        }
        return leader;
    }

    private static void dueSpans(String text, String spans, int[]... of) {
        PrefixLeader leader = withLines(of);
        Due.is(text, Scene.spans(leader, 0), spans);
        int size = leader.spans(0);
        for (int what = 0; what < 3; what++) {
            Due.is(text + ": none behind the last", leader.span(0, size, what), NONE);
        }
    }

    /** 11: an empty BOOK has one SPAN too. */
    private static void oneSpanOfAll() {
        dueSpans("no LINE", " 0..4294967295->16");
        dueSpans("the empty one to NOWHERE", " 0..4294967295->16", new int[] {0, 0, 16});
        dueSpans("the empty one", " 0..4294967295->0", new int[] {0, 0, 0});
        dueSpans("two halves", " 0..4294967295->3", new int[] {0, 1, 3}, new int[] {0x80000000, 1, 3});
    }

    /** "the longest rows of ADDRESSES, one behind the other, that are LED to one GOAL" */
    private static void theLongestRows() {
        dueSpans("a LINE in a like one", " 0..2147483647->3 2147483648..4294967295->16",
                new int[] {0, 1, 3}, new int[] {0x20000000, 3, 3}, new int[] {0x7FFFFFFF, 32, 3});
        dueSpans("across the middle", " 0..2147483646->16 2147483647..2147483648->3 2147483649..4294967295->16",
                new int[] {0x7FFFFFFF, 32, 3}, new int[] {0x80000000, 32, 3});
        dueSpans("of other lengths", " 0..5->3 6..4294967295->16",
                new int[] {0, 30, 3}, new int[] {4, 31, 3});
        dueSpans("two GOALS side by side", " 0..2147483647->1 2147483648..4294967295->2",
                new int[] {0, 1, 1}, new int[] {0x80000000, 1, 2});
        dueSpans("one GOAL, but not behind the other", " 0..0->1 1..1->16 2..2->1 3..4294967295->16",
                new int[] {0, 32, 1}, new int[] {2, 32, 1});
    }

    /** "in their order (those to NOWHERE too)" */
    private static void thoseToNowhereToo() {
        dueSpans("by no LINE and by one", " 0..3->16 4..7->5 8..4294967295->16",
                new int[] {4, 30, 5}, new int[] {8, 29, 16});
        dueSpans("in a LINE", " 0..1073741823->16 1073741824..2147483647->5 2147483648..4294967295->16",
                new int[] {0, 1, 5}, new int[] {0, 2, 16});
    }

    private static void theFirstAndTheLastAddress() {
        dueSpans("the first", " 0..0->1 1..4294967295->16", new int[] {0, 32, 1});
        dueSpans("the last", " 0..4294967294->16 4294967295..4294967295->1", new int[] {-1, 32, 1});
        dueSpans("the last in others", " 0..2147483647->1 2147483648..4294967293->2"
                + " 4294967294..4294967294->3 4294967295..4294967295->4", new int[] {0, 0, 1},
                new int[] {0x80000000, 1, 2}, new int[] {-2, 31, 3}, new int[] {-1, 32, 4});
        dueSpans("behind the last of one, another's", " 0..1->4 2..3->3 4..7->2 8..4294967295->1",
                new int[] {0, 0, 1}, new int[] {0, 29, 2}, new int[] {0, 30, 3}, new int[] {0, 31, 4});
    }

    /** 11: "How many SPANS BOOK b has" */
    private static void fewestAndMostSpans() {
        PrefixLeader leader = new PrefixLeader();
        for (int i = 0; i < 64; i++) {
            Due.is("by " + i + " LINES", leader.spans(0), 2 * i + 1);
            leader.put(0, 2 * i + 1, 32, i % 16);
        }
        Due.is("by 64 LINES", leader.spans(0), 129);
        Due.is("the last's first", leader.span(0, 128, 0), 128);
        Due.is("the last's last", leader.span(0, 128, 1), Scene.LAST);
        Due.is("the last's GOAL", leader.span(0, 128, 2), 16);
        Due.is("the last but one", leader.span(0, 127, 1), 127);
        Due.is("none behind it", leader.span(0, 129, 0), NONE);
        for (int i = 0; i < 64; i++) {
            leader.put(1, i << 26, 6, 16);
        }
        Due.is("64 LINES, one SPAN", leader.spans(1), 1);
    }

    private static void spansOfNestedLines() {
        PrefixLeader leader = new PrefixLeader();
        for (int n = 0; n <= 32; n++) {
            leader.put(0, n == 0 ? 0 : -1 << 32 - n, n, n % 16);
        }
        Due.is("33 in one another", leader.spans(0), 33);
        for (int i = 0; i < 33; i++) {
            Due.is("GOAL " + i, leader.span(0, i, 2), i % 16);
        }
        Due.is("the last ADDRESS", leader.span(0, 32, 0), Scene.LAST);
        Due.is("one ahead", leader.span(0, 31, 1), Scene.LAST - 1);
        leader.drop(0, -1, 32);
        Due.is("32 of them", leader.span(0, 31, 1), Scene.LAST);
    }

    /** 11: "NONE: no such BOOK." */
    private static void spansRefused() {
        for (int b : Scene.NO_BOOKS) {
            Scene.changesNothing("spans " + b, leader -> leader.spans(b), NONE);
        }
    }

    /** 12: "NONE for others." */
    private static void spanForOthers() {
        for (int what = 0; what < 3; what++) {
            int told = what;
            for (int b : Scene.NO_BOOKS) {
                Scene.changesNothing("span of book " + b, leader -> leader.span(b, 0, told), NONE);
            }
            for (int i : new int[] {-1, 3, 128, 129, Scene.LOW, Scene.HIGH}) {
                Scene.changesNothing("span " + i, leader -> leader.span(0, i, told), NONE);
            }
            Scene.changesNothing("the second of one", leader -> leader.span(2, 1, told), NONE);
        }
        for (int what : new int[] {-1, 3, Scene.LOW, Scene.HIGH}) {
            Scene.changesNothing("span, what " + what, leader -> leader.span(0, 0, what), NONE);
        }
        PrefixLeader leader = Scene.made();
        Due.is("of another book before", leader.spans(0), 3);
        Due.is("of its own", leader.span(2, 2, 0), NONE);
    }

    /** 13: "How many ADDRESSES BOOK b LEADS to a GOAL" */
    private static void shareOfNoneAndAll() {
        PrefixLeader leader = new PrefixLeader();
        for (int goal = 0; goal <= 16; goal++) {
            leader.put(0, 0, 0, goal);
            Due.is("all to " + goal, leader.share(0, goal), Scene.ALL);
            Due.is("none to the next", leader.share(0, goal == 16 ? 0 : goal + 1), 0);
            Due.is("by no LINE", leader.share(1, goal), goal == 16 ? Scene.ALL : 0);
        }
        leader.put(0, -1, 32, 0);
        Due.is("one", leader.share(0, 0), 1);
        Due.is("all but one", leader.share(0, 16), Scene.LAST);
        leader.put(0, 0, 32, 0);
        Due.is("the first and the last", leader.share(0, 0), 2);
        leader.put(2, 0, 0, 7);
        leader.put(2, 0, 1, 8);
        leader.put(2, 0x80000000, 1, 8);
        Due.is("a LINE that LEADS none", leader.share(2, 7), 0);
    }

    private static void sharesMakeAll() {
        PrefixLeader leader = new PrefixLeader();
        for (int i = 0; i < 64; i++) {
            leader.put(0, i << 20, 12 + i % 20, i % 17);
        }
        long sum = 0;
        for (int goal = 0; goal <= 16; goal++) {
            sum += leader.share(0, goal);
        }
        Due.is("all of them", sum, Scene.ALL);
    }

    /** 13: "NONE: no such BOOK, GOAL." */
    private static void shareRefused() {
        for (int b : Scene.NO_BOOKS) {
            Scene.changesNothing("share of book " + b, leader -> leader.share(b, 16), NONE);
        }
        for (int goal : new int[] {-1, 17, Scene.LOW, Scene.HIGH}) {
            Scene.changesNothing("share, GOAL " + goal, leader -> leader.share(0, goal), NONE);
        }
    }

    /** 14: "Whether two BOOKS are THE SAME: 1, 0" */
    private static void sameOrNot() {
        for (int address : new int[] {0, 0x7FFFFFFF, 0x80000000, -1}) {
            PrefixLeader leader = new PrefixLeader();
            leader.put(0, address, 32, 0);
            Due.is("one ADDRESS", leader.same(0, 1), 0);
            Due.is("turned", leader.same(1, 0), 0);
            Due.is("itself", leader.same(0, 0), 1);
            leader.put(1, address, 32, 1);
            Due.is("another GOAL", leader.same(0, 1), 0);
            leader.put(1, address, 32, 0);
            Due.is("the same GOAL", leader.same(0, 1), 1);
        }
    }

    /** 14: "NONE: no such BOOKS." */
    private static void sameRefused() {
        for (int b : Scene.NO_BOOKS) {
            Scene.changesNothing("same " + b, leader -> leader.same(b, 0), NONE);
            Scene.changesNothing("same with " + b, leader -> leader.same(0, b), NONE);
            Scene.changesNothing("same, twice " + b, leader -> leader.same(b, b), NONE);
        }
    }

    /** 15: "what 0 the least ADDRESS, 1 how many" */
    private static void differAtTheEdges() {
        for (int address : new int[] {0, 1, 0x7FFFFFFF, 0x80000000, -2, -1}) {
            PrefixLeader leader = new PrefixLeader();
            leader.put(0, address, 32, 0);
            Due.is("the least", leader.differ(0, 1, 0), Integer.toUnsignedLong(address));
            Due.is("the least, turned", leader.differ(1, 0, 0), Integer.toUnsignedLong(address));
            Due.is("one", leader.differ(0, 1, 1), 1);
        }
        PrefixLeader leader = withLines(new int[] {0, 0, 0});
        Due.is("all: the least", leader.differ(0, 1, 0), 0);
        Due.is("all", leader.differ(0, 1, 1), Scene.ALL);
        leader.put(1, 0, 1, 0);
        Due.is("the upper half: the least", leader.differ(0, 1, 0), 0x80000000L);
        Due.is("the upper half", leader.differ(0, 1, 1), 0x80000000L);
        leader.put(0, 0, 32, 16);
        Due.is("the first too: the least", leader.differ(0, 1, 0), 0);
        Due.is("the first too", leader.differ(0, 1, 1), 0x80000001L);
        PrefixLeader full = new PrefixLeader();
        for (int i = 0; i < 64; i++) {
            full.put(0, 4 * i + 1, 32, 1);
            full.put(1, 4 * i + 3, 32, 1);
        }
        Due.is("two full ones: the least", full.differ(0, 1, 0), 1);
        Due.is("two full ones", full.differ(0, 1, 1), 128);
    }

    /** 15: "(NONE: THE SAME)" */
    private static void differOfTheSame() {
        PrefixLeader leader = withLines(new int[] {0, 0, 3});
        leader.put(1, 0, 1, 3);
        leader.put(1, 0x80000000, 1, 3);
        Due.is("by other LINES", leader.differ(0, 1, 0), NONE);
        Due.is("by other LINES, how many", leader.differ(0, 1, 1), 0);
        Due.is("itself", leader.differ(0, 0, 0), NONE);
        Due.is("itself, how many", leader.differ(0, 0, 1), 0);
        Due.is("empty ones", leader.differ(4, 5, 0), NONE);
        Due.is("empty ones, how many", leader.differ(4, 5, 1), 0);
    }

    /** 15: "NONE for others, no such BOOKS." */
    private static void differForOthers() {
        for (int what = 0; what < 2; what++) {
            int told = what;
            for (int b : Scene.NO_BOOKS) {
                Scene.changesNothing("differ " + b, leader -> leader.differ(b, 0, told), NONE);
                Scene.changesNothing("differ from " + b, leader -> leader.differ(0, b, told), NONE);
                Scene.changesNothing("differ, twice " + b, leader -> leader.differ(b, b, told), NONE);
            }
        }
        for (int what : new int[] {-1, 2, Scene.LOW, Scene.HIGH}) {
            Scene.changesNothing("differ, what " + what, leader -> leader.differ(0, 1, what), NONE);
        }
    }
}
