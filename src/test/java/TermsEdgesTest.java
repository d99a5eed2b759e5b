/** The edges that the document's "Terms" name: one method for each sentence. */
public final class TermsEdgesTest {
    private static final int NONE = Scene.NONE;
    private static final int NOWHERE = Scene.NOWHERE;

    public static void main(String[] args) {
        anObjectIsUsedFor512Calls();
        addressesAreOrderedAsNumbers();
        addressesAreToldAsLongs();
        beginningsHave0To32Bits();
        otherBitsAre0();
        goalsAre0To15OrNowhere();
        booksAre0To5();
        booksHaveAtMost64Lines();
        noTwoOfOneBeginning();
        ofLikeAddressesByN();
        otherBooksStay();
        tellingChangesNothing();
        ledByTheMostBits();
        ledByNoneToNowhere();
        theSameByOtherLines();
        Due.end();
    }

    /** "An object is used for at most 512 calls after it has been made." */
    private static void anObjectIsUsedFor512Calls() {
        PrefixLeader leader = new PrefixLeader();
        for (int i = 0; i < 6 * 64; i++) {
            Due.is("call " + (i + 1), leader.put(i / 64, i % 64 << 8, 32, i % 16), 0);
        }
        int[] due = {64, 128, 1, 0, 128};
        for (int i = 0; i < 127; i++) {
            Due.is("call " + (385 + i), dearCall(leader, i % 5), due[i % 5]);
        }
        Due.is("call 512", leader.line(5, 63, 2), 15);
    }

    private static int dearCall(PrefixLeader leader, int kind) {
        switch (kind) {
            case 0:
                return leader.least(0, 1);
            case 1:
                return (int) leader.nodes(1, 0);
            case 2:
                return leader.same(1, 2);
            case 3:
                return leader.way(3, 4);
            default:
                return leader.spans(5);
        }
    }

    /** "ADDRESSES are ordered as numbers from 0 to 4294967295." */
    private static void addressesAreOrderedAsNumbers() {
        PrefixLeader leader = new PrefixLeader();
        for (int address : new int[] {-1, 0x80000000, 1, 0x7FFFFFFF, 0, -2, 0x80000001}) {
            leader.put(0, address, 32, 1);
        }
        Due.is("in their order", Scene.lines(leader, 0), " 0/32->1 1/32->1 2147483647/32->1"
                + " 2147483648/32->1 2147483649/32->1 4294967294/32->1 4294967295/32->1");
        Due.is("places", leader.longest(0, 0x7FFFFFFF), 2);
        Due.is("places", leader.longest(0, 0x80000000), 3);
        Due.is("ahead", leader.cover(0x7FFFFFFF, 0x80000000), 2);
        Due.is("behind", leader.cover(0x80000000, 0x7FFFFFFF), NONE);
        leader.way(1, 0);
        Due.is("a WAY's order", leader.step(2, 1), 2147483647L);
        Due.is("a WAY's order", leader.step(3, 1), 2147483648L);
    }

    /** "(told as longs where they are answers)" */
    private static void addressesAreToldAsLongs() {
        PrefixLeader leader = new PrefixLeader();
        leader.put(0, -1, 32, 1);
        leader.cover(-1, -1);
        leader.way(0, 1);
        Due.is("line", leader.line(0, 0, 0), Scene.LAST);
        Due.is("span's first", leader.span(0, 1, 0), Scene.LAST);
        Due.is("span's last", leader.span(0, 1, 1), Scene.LAST);
        Due.is("differ", leader.differ(0, 1, 0), Scene.LAST);
        Due.is("piece", leader.piece(0, 0), Scene.LAST);
        Due.is("dropped", leader.step(0, 1), Scene.LAST);
        Due.is("nodes", leader.nodes(0, 3), 4294967292L);
        leader.way(1, 0);
        Due.is("put", leader.step(0, 1), Scene.LAST);
    }

    /** "A BEGINNING is its first n bits (n 0 to 32)." */
    private static void beginningsHave0To32Bits() {
        PrefixLeader leader = new PrefixLeader();
        for (int n = 0; n <= 32; n++) {
            int address = n == 0 ? 0 : -1 << 32 - n;
            Due.is("put, n " + n, leader.put(0, address, n, n % 16), 0);
            Due.is("line, n " + n, leader.line(0, n, 1), n);
            Due.is("set, n " + n, leader.set(0, address, n), 1 << n % 16);
            Due.is("find, n " + n, leader.find(0, -1), n % 16);
        }
        for (int n : new int[] {-1, 33, -32, 64, Scene.LOW, Scene.HIGH}) {
            Due.is("put, n " + n, leader.put(0, 0, n, 0), NONE);
            Due.is("set, n " + n, leader.set(0, 0, n), NONE);
            Due.is("drop, n " + n, leader.drop(0, 0, n), false);
        }
        for (int n = 32; n >= 0; n--) {
            Due.is("drop, n " + n, leader.drop(0, n == 0 ? 0 : -1 << 32 - n, n), true);
        }
    }

    /** "told as an ADDRESS whose other bits are 0, and n." */
    private static void otherBitsAre0() {
        for (int n = 0; n <= 32; n++) {
            PrefixLeader leader = new PrefixLeader();
            for (int place = 0; place < 32; place++) {
                int address = Integer.MIN_VALUE >>> place;
                String text = "bit " + place + ", n " + n;
                Due.is("put, " + text, leader.put(0, address, n, 3), place < n ? 0 : NONE);
                Due.is("set, " + text, leader.set(1, address, n), place < n ? 1 << 16 : NONE);
                Due.is("drop, " + text, leader.drop(2, address, n), false);
            }
            Due.is("LINES, n " + n, leader.count(0), n);
        }
    }

    /** "A GOAL is 0 to 15, or 16, NOWHERE." */
    private static void goalsAre0To15OrNowhere() {
        PrefixLeader leader = new PrefixLeader();
        for (int goal = 0; goal <= 16; goal++) {
            Due.is("put, goal " + goal, leader.put(0, goal << 20, 12, goal), 0);
            Due.is("line, goal " + goal, leader.line(0, goal, 2), goal);
            Due.is("find, goal " + goal, leader.find(0, goal << 20), goal);
            Due.is("share, goal " + goal, leader.share(0, goal), goal == NOWHERE ? Scene.ALL - 16 * (1 << 20) : 1 << 20);
        }
        for (int goal : new int[] {-1, 17, 32, Scene.LOW, Scene.HIGH}) {
            Due.is("put, goal " + goal, leader.put(1, 0, 0, goal), NONE);
            Due.is("put again, goal " + goal, leader.put(0, 0, 12, goal), NONE);
            Due.is("share, goal " + goal, leader.share(0, goal), NONE);
        }
        Due.is("no LINE came", leader.count(1), 0);
        Due.is("no GOAL came", leader.line(0, 0, 2), 0);
    }

    /** "BOOKS 0 to 5" */
    private static void booksAre0To5() {
        PrefixLeader leader = new PrefixLeader();
        for (int b = 0; b < 6; b++) {
            Due.is("put, book " + b, leader.put(b, 0, b, b), 0);
        }
        for (int b = 0; b < 6; b++) {
            Due.is("book " + b, Scene.lines(leader, b), " 0/" + b + "->" + b);
        }
        for (int b : Scene.NO_BOOKS) {
            Due.is("put, book " + b, leader.put(b, 0, 0, 0), NONE);
            Due.is("count, book " + b, leader.count(b), NONE);
        }
    }

    /** "have at most 64 LINES each" */
    private static void booksHaveAtMost64Lines() {
        PrefixLeader leader = new PrefixLeader();
        for (int b = 0; b < 6; b++) {
            for (int i = 0; i < 64; i++) {
                Due.is("book " + b + ", put " + i, leader.put(b, i << 26, 6, b), 0);
            }
        }
        for (int b = 0; b < 6; b++) {
            Due.is("book " + b + ", the 65th", leader.put(b, 0, 0, b), NONE);
            Due.is("book " + b + ", count", leader.count(b), 64);
            Due.is("book " + b + ", the last", leader.find(b, -1), b);
        }
    }

    /** "no two of one BEGINNING" */
    private static void noTwoOfOneBeginning() {
        PrefixLeader leader = new PrefixLeader();
        Due.is("put", leader.put(0, 0x40000000, 2, 1), 0);
        Due.is("put the same", leader.put(0, 0x40000000, 2, 1), 1);
        Due.is("put with another GOAL", leader.put(0, 0x40000000, 2, 2), 1);
        Due.is("one LINE", Scene.lines(leader, 0), " 1073741824/2->2");
        Due.is("drop", leader.drop(0, 0x40000000, 2), true);
        Due.is("none is left", leader.drop(0, 0x40000000, 2), false);
    }

    /** "ordered by ADDRESS, of like ones by n" */
    private static void ofLikeAddressesByN() {
        PrefixLeader leader = new PrefixLeader();
        for (int n : new int[] {32, 1, 17, 2, 31}) {
            leader.put(0, 0x80000000, n, n % 16);
        }
        leader.put(0, 0x40000000, 32, 9);
        leader.put(0, 0xC0000000, 2, 8);
        leader.put(0, 0, 0, 7);
        Due.is("in their order", Scene.lines(leader, 0), " 0/0->7 1073741824/32->9 2147483648/1->1 2147483648/2->2"
                + " 2147483648/17->1 2147483648/31->15 2147483648/32->0 3221225472/2->8");
    }

    /** "(Those of BOOKS that a call is not told to change stay.)" */
    private static void otherBooksStay() {
        othersStay("put", leader -> leader.put(2, 0, 0, 9), 2);
        othersStay("put again", leader -> leader.put(0, 0, 0, 9), 0);
        othersStay("drop", leader -> leader.drop(0, 0, 0) ? 1 : 0, 0);
        othersStay("copy", leader -> leader.copy(0, 3), 3);
        othersStay("copy of none", leader -> leader.copy(2, 0), 0);
        othersStay("least", leader -> leader.least(0, 4), 4);
        othersStay("combine", leader -> leader.combine(0, 0, 1, 5), 5);
        othersStay("combine onto a", leader -> leader.combine(1, 0, 1, 0), 0);
        othersStay("combine onto b", leader -> leader.combine(2, 0, 1, 1), 1);
    }

    private static void othersStay(String text, Scene.Call call, int changed) {
        PrefixLeader leader = Scene.made();
        PrefixLeader before = Scene.made();
        call.on(leader);
        for (int b = 0; b < 6; b++) {
            boolean stays = Scene.lines(leader, b).equals(Scene.lines(before, b));
            Due.is(text + ", book " + b + " stays", stays, b != changed);
        }
        Due.is(text + ": the COVER stays", Scene.cover(leader), Scene.cover(before));
        Due.is(text + ": the WAY stays", Scene.way(leader), Scene.way(before));
    }

    /** Calls that are told to change no BOOK change none, nor what else an object holds. */
    private static void tellingChangesNothing() {
        Scene.changesNothing("count", leader -> leader.count(0), 3);
        Scene.changesNothing("line", leader -> leader.line(0, 2, 0), Scene.LAST);
        Scene.changesNothing("find", leader -> leader.find(1, -1), 4);
        Scene.changesNothing("longest", leader -> leader.longest(1, -1), 1);
        Scene.changesNothing("set", leader -> leader.set(0, 0x80000000, 1), 1 << 2);
        Scene.changesNothing("spans", leader -> leader.spans(0), 3);
        Scene.changesNothing("span", leader -> leader.span(0, 2, 0), Scene.LAST);
        Scene.changesNothing("share", leader -> leader.share(0, 16), 1);
        Scene.changesNothing("same", leader -> leader.same(0, 1), 0);
        Scene.changesNothing("differ", leader -> leader.differ(0, 1, 0), 0);
        Scene.changesNothing("piece", leader -> leader.piece(3, 1), 31);
        Scene.changesNothing("step", leader -> leader.step(3, 1), Scene.LAST);
        Scene.changesNothing("led", leader -> leader.led(4, 0), 3);
        Scene.changesNothing("nodes", leader -> leader.nodes(0, 0), 3);
        Scene.changesNothing("steps", leader -> leader.steps(0, -1), 6);
    }

    /** "LEADS an ADDRESS to the GOAL of the LINE with the most bits that the ADDRESS begins with" */
    private static void ledByTheMostBits() {
        PrefixLeader leader = new PrefixLeader();
        for (int n = 32; n >= 0; n--) {
            leader.put(0, 0, n, n % 17);
        }
        Due.is("all 33", leader.find(0, 0), 32 % 17);
        for (int n = 0; n < 32; n++) {
            Due.is("n " + n, leader.find(0, Integer.MIN_VALUE >>> n), n % 17);
            Due.is("n " + n + ", the last", leader.find(0, -1 >>> n), n % 17);
        }
    }

    /** "without any to NOWHERE" */
    private static void ledByNoneToNowhere() {
        PrefixLeader leader = new PrefixLeader();
        leader.put(0, 0x40000000, 2, 0);
        Due.is("one ahead", leader.find(0, 0x3FFFFFFF), NOWHERE);
        Due.is("the first", leader.find(0, 0x40000000), 0);
        Due.is("the last", leader.find(0, 0x7FFFFFFF), 0);
        Due.is("one behind", leader.find(0, 0x80000000), NOWHERE);
        Due.is("another book", leader.find(1, 0x40000000), NOWHERE);
    }

    /** "Two BOOKS are THE SAME if they LEAD each ADDRESS alike." */
    private static void theSameByOtherLines() {
        PrefixLeader leader = new PrefixLeader();
        leader.put(0, 0, 0, 3);
        leader.put(1, 0, 1, 3);
        leader.put(1, 0x80000000, 1, 3);
        leader.put(2, 0, 0, 5);
        leader.put(2, 0, 1, 3);
        leader.put(2, 0x80000000, 1, 3);
        Due.is("two halves", leader.same(0, 1), 1);
        Due.is("a LINE that LEADS none", leader.same(0, 2), 1);
        leader.drop(2, 0x80000000, 1);
        Due.is("it LEADS now", leader.same(0, 2), 0);
        leader.put(3, 0, 0, 16);
        Due.is("a LINE to NOWHERE and no LINE", leader.same(3, 4), 1);
    }
}
