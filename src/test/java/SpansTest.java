/** Promises 11 to 15: spans, span, share, same, differ. */
public final class SpansTest {
    private static final int NONE = PrefixLeader.NONE;
    private static final long LAST = 4294967295L;
    private static final int[] NO_BOOKS = {-1, 6, Integer.MIN_VALUE, Integer.MAX_VALUE};

    public static void main(String[] args) {
        spans();
        spansThatMeet();
        mostSpans();
        nested();
        share();
        same();
        differ();
        wrongCalls();
        Due.end();
    }

    private static void dueSpans(String text, PrefixLeader leader, int b, long[][] spans) {
        Due.is(text + ": spans", leader.spans(b), spans.length);
        for (int i = 0; i < spans.length; i++) {
            for (int what = 0; what < 3; what++) {
                Due.is(text + ": span " + i + ", what " + what, leader.span(b, i, what), spans[i][what]);
            }
        }
        Due.is(text + ": behind the last", leader.span(b, spans.length, 0), NONE);
    }

    private static void spans() {
        PrefixLeader leader = new PrefixLeader();
        dueSpans("none", leader, 0, new long[][] {{0, LAST, 16}});
        leader.put(0, 0x80000000, 1, 3);
        dueSpans("upper half", leader, 0, new long[][] {{0, 0x7FFFFFFFL, 16}, {0x80000000L, LAST, 3}});
        leader.put(0, -1, 32, 4);
        leader.put(0, 0, 32, 5);
        dueSpans("edges", leader, 0, new long[][] {
            {0, 0, 5}, {1, 0x7FFFFFFFL, 16}, {0x80000000L, LAST - 1, 3}, {LAST, LAST, 4}});
    }

    private static void spansThatMeet() {
        PrefixLeader leader = new PrefixLeader();
        leader.put(0, 0x10000000, 4, 2);
        leader.put(0, 0x20000000, 3, 2);
        leader.put(0, 0x30000000, 8, 2);
        leader.put(0, 0x50000000, 4, 16);
        dueSpans("one goal", leader, 0, new long[][] {
            {0, 0x0FFFFFFFL, 16}, {0x10000000L, 0x3FFFFFFFL, 2}, {0x40000000L, LAST, 16}});
    }

    private static void mostSpans() {
        PrefixLeader leader = new PrefixLeader();
        for (int i = 0; i < 64; i++) {
            leader.put(0, 2 * i + 1, 32, i % 16);
        }
        Due.is("most spans", leader.spans(0), 129);
        Due.is("the last", leader.span(0, 128, 0), 128);
        Due.is("the last's end", leader.span(0, 128, 1), LAST);
        Due.is("one ahead", leader.span(0, 127, 2), 15);
    }

    private static void nested() {
        PrefixLeader leader = new PrefixLeader();
        for (int n = 0; n <= 32; n++) {
            leader.put(0, 0, n, n % 16);
        }
        Due.is("nested", leader.spans(0), 33);
        Due.is("first", leader.span(0, 0, 2), 0);
        Due.is("second", leader.span(0, 1, 2), 15);
        Due.is("last starts", leader.span(0, 32, 0), 0x80000000L);
        for (int n = 0; n < 31; n++) {
            leader.put(1, 1 << n, 32 - n, n % 2);
            leader.put(1, 0, 32 - n, 5);
        }
        Due.is("one in the other", leader.spans(1), 33);
    }

    private static void share() {
        PrefixLeader leader = new PrefixLeader();
        Due.is("all to NOWHERE", leader.share(0, 16), LAST + 1);
        leader.put(0, 0, 1, 1);
        leader.put(0, 0, 2, 16);
        leader.put(0, 0xF0000000, 4, 1);
        leader.put(0, -1, 32, 0);
        Due.is("in two spans", leader.share(0, 1), 0x40000000L + 0x0FFFFFFFL);
        Due.is("one", leader.share(0, 0), 1);
        Due.is("none", leader.share(0, 15), 0);
        Due.is("NOWHERE", leader.share(0, 16), 0x40000000L + 0x70000000L);
    }

    private static void same() {
        PrefixLeader leader = new PrefixLeader();
        leader.put(0, 0, 0, 16);
        Due.is("by no line", leader.same(0, 1), 1);
        leader.put(0, 0, 0, 1);
        leader.put(1, 0, 1, 1);
        Due.is("a half", leader.same(0, 1), 0);
        leader.put(1, 0x80000000, 1, 1);
        Due.is("two halves", leader.same(0, 1), 1);
        Due.is("itself", leader.same(1, 1), 1);
        leader.put(1, -1, 32, 2);
        Due.is("the last address", leader.same(0, 1), 0);
    }

    private static void differ() {
        PrefixLeader leader = new PrefixLeader();
        leader.put(0, 0x40000000, 2, 1);
        leader.put(1, 0x60000000, 2 + 1, 1);
        leader.put(1, 0xFFFFFFF0, 28, 2);
        Due.is("least", leader.differ(0, 1, 0), 0x40000000L);
        Due.is("how many", leader.differ(0, 1, 1), 0x20000000L + 16);
        Due.is("turned", leader.differ(1, 0, 1), 0x20000000L + 16);
        Due.is("itself, least", leader.differ(1, 1, 0), NONE);
        Due.is("itself, how many", leader.differ(1, 1, 1), 0);
        leader.put(2, 0, 0, 0);
        Due.is("all, least", leader.differ(2, 3, 0), 0);
        Due.is("all, how many", leader.differ(2, 3, 1), LAST + 1);
    }

    private static void wrongCalls() {
        PrefixLeader leader = new PrefixLeader();
        for (int b : NO_BOOKS) {
            Due.is("spans " + b, leader.spans(b), NONE);
            Due.is("span " + b, leader.span(b, 0, 0), NONE);
            Due.is("share " + b, leader.share(b, 16), NONE);
            Due.is("same " + b, leader.same(b, 0), NONE);
            Due.is("same with " + b, leader.same(0, b), NONE);
            Due.is("differ " + b, leader.differ(b, 0, 1), NONE);
            Due.is("differ from " + b, leader.differ(0, b, 1), NONE);
        }
        for (int wrong : new int[] {-1, Integer.MIN_VALUE, 17, Integer.MAX_VALUE}) {
            Due.is("span's i " + wrong, leader.span(0, wrong, 0), NONE);
            Due.is("span's what " + wrong, leader.span(0, 0, wrong), NONE);
            Due.is("share's goal " + wrong, leader.share(0, wrong), NONE);
            Due.is("differ's what " + wrong, leader.differ(0, 0, wrong), NONE);
        }
        Due.is("span's what 3", leader.span(0, 0, 3), NONE);
        Due.is("differ's what 2", leader.differ(0, 0, 2), NONE);
    }
}
