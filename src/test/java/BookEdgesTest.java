/** The edges that promises 1 to 8 name: new object, put, drop, copy, count, line, find, longest. */
public final class BookEdgesTest {
    private static final int NONE = Scene.NONE;
    private static final int NOWHERE = Scene.NOWHERE;

    public static void main(String[] args) {
        newObject();
        objectsAreApart();
        putComes();
        putWasThere();
        putRefused();
        putAnotherBit();
        putInto64();
        dropGoes();
        dropNoneSuch();
        copyInPlaceOfItsOwn();
        copyOntoItself();
        copyOfFullAndEmpty();
        copyRefused();
        countFromNoneToFull();
        countRefused();
        lineFirstAndLast();
        lineForOthers();
        findAtTheEdgesOfALine();
        findRefused();
        longestFirstAndLastPlace();
        longestToNowhere();
        longestNone();
        Due.end();
    }

    private static PrefixLeader withFullBook(int b) {
        PrefixLeader leader = new PrefixLeader();
        for (int i = 0; i < 64; i++) {
            leader.put(b, 2 * i + 1, 32, i % 16);
        }
        return leader;
    }

    /** 1: "BOOKS without LINES." */
    private static void newObject() {
        for (int b = 0; b < 6; b++) {
            PrefixLeader leader = new PrefixLeader();
            Due.is("new: count " + b, leader.count(b), 0);
            Due.is("new: line " + b, leader.line(b, 0, 0), NONE);
            Due.is("new: drop " + b, leader.drop(b, 0, 0), false);
            Due.is("new: find " + b, leader.find(b, 0), NOWHERE);
            Due.is("new: longest " + b, leader.longest(b, -1), NONE);
            Due.is("new: set " + b, leader.set(b, 0, 0), 1 << 16);
            Due.is("new: spans " + b, Scene.spans(leader, b), " 0..4294967295->16");
            Due.is("new: share " + b, leader.share(b, 16), Scene.ALL);
            Due.is("new: share of 0 " + b, leader.share(b, 0), 0);
            Due.is("new: same " + b, leader.same(b, 5 - b), 1);
            Due.is("new: differ " + b, leader.differ(b, 5 - b, 0), NONE);
            Due.is("new: nodes " + b, leader.nodes(b, 0), 1);
            Due.is("new: steps " + b, leader.steps(b, -1), 1);
            Due.is("new: copy " + b, leader.copy(b, 5 - b), 0);
            Due.is("new: least " + b, leader.least(b, 5 - b), 0);
            Due.is("new: combine " + b, leader.combine(0, b, 5 - b, b), 0);
        }
        PrefixLeader leader = new PrefixLeader();
        Due.is("new: no COVER", leader.piece(0, 0), NONE);
        Due.is("new: no STEP", leader.step(0, 0), NONE);
        Due.is("new: no WAY", leader.led(0, 0), NONE);
    }

    /** "All memory is the book's own." */
    private static void objectsAreApart() {
        PrefixLeader empty = new PrefixLeader();
        PrefixLeader full = Scene.made();
        Due.is("apart", Scene.told(empty), Scene.told(new PrefixLeader()));
        empty.put(0, 0, 0, 9);
        empty.cover(0, 0);
        empty.way(5, 5);
        Due.is("apart", Scene.told(full), Scene.told(Scene.made()));
    }

    /** 2: "A LINE comes into BOOK b: 0" */
    private static void putComes() {
        PrefixLeader leader = new PrefixLeader();
        Due.is("the empty BEGINNING", leader.put(0, 0, 0, 0), 0);
        Due.is("the first ADDRESS", leader.put(0, 0, 32, 15), 0);
        Due.is("the last ADDRESS", leader.put(0, -1, 32, 16), 0);
        Due.is("the lower half", leader.put(0, 0, 1, 1), 0);
        Due.is("the upper half", leader.put(0, 0x80000000, 1, 2), 0);
        Due.is("they are there", Scene.lines(leader, 0), " 0/0->0 0/1->1 0/32->15 2147483648/1->2 4294967295/32->16");
        Due.is("gone and come again", leader.drop(0, 0, 0), true);
        Due.is("gone and come again", leader.put(0, 0, 0, 3), 0);
    }

    /** 2: "1: its BEGINNING was there, and has this GOAL now" */
    private static void putWasThere() {
        PrefixLeader leader = new PrefixLeader();
        leader.put(0, 0, 0, 0);
        leader.put(0, -1, 32, 0);
        Due.is("NOWHERE for 0", leader.put(0, 0, 0, 16), 1);
        Due.is("another for NOWHERE", leader.put(0, 0, 0, 15), 1);
        Due.is("the same GOAL", leader.put(0, 0, 0, 15), 1);
        Due.is("of all bits", leader.put(0, -1, 32, 7), 1);
        Due.is("as they are now", Scene.lines(leader, 0), " 0/0->15 4294967295/32->7");
        Due.is("of another book it was not", leader.put(1, 0, 0, 15), 0);
    }

    /** 2: "NONE: no such BOOK, n, GOAL" */
    private static void putRefused() {
        for (int b : Scene.NO_BOOKS) {
            Scene.changesNothing("put, book " + b, leader -> leader.put(b, 0, 0, 9), NONE);
        }
        for (int n : new int[] {-1, 33, 65, Scene.LOW, Scene.HIGH}) {
            Scene.changesNothing("put, n " + n, leader -> leader.put(0, 0, n, 9), NONE);
            Scene.changesNothing("put, all bits, n " + n, leader -> leader.put(0, -1, n, 9), NONE);
        }
        for (int goal : new int[] {-1, 17, Scene.LOW, Scene.HIGH}) {
            Scene.changesNothing("put, GOAL " + goal, leader -> leader.put(0, 0, 1, goal), NONE);
            Scene.changesNothing("put again, GOAL " + goal, leader -> leader.put(0, 0, 0, goal), NONE);
        }
    }

    /** 2: "another bit than the first n is 1" */
    private static void putAnotherBit() {
        Scene.changesNothing("n 0, the first bit", leader -> leader.put(0, 0x80000000, 0, 9), NONE);
        Scene.changesNothing("n 0, the last bit", leader -> leader.put(0, 1, 0, 9), NONE);
        Scene.changesNothing("n 1, the second bit", leader -> leader.put(0, 0xC0000000, 1, 9), NONE);
        Scene.changesNothing("n 31, the last bit", leader -> leader.put(0, 1, 31, 9), NONE);
        Scene.changesNothing("n 31, all bits", leader -> leader.put(0, -1, 31, 9), NONE);
        Due.is("n 31, its last bit", Scene.made().put(0, 2, 31, 9), 0);
        Due.is("n 32, the last bit", Scene.made().put(0, 1, 32, 9), 0);
    }

    /** 2: "or 64 are there" */
    private static void putInto64() {
        PrefixLeader leader = withFullBook(0);
        String before = Scene.lines(leader, 0);
        for (int address : new int[] {0, 64, 126, 128, -1}) {
            Due.is("the 65th, " + address, leader.put(0, address, 32, 1), NONE);
        }
        Due.is("the 65th, the empty one", leader.put(0, 0, 0, 1), NONE);
        Due.is("64 stay", Scene.lines(leader, 0), before);
        Due.is("one of them, the first", leader.put(0, 1, 32, 9), 1);
        Due.is("one of them, the last", leader.put(0, 127, 32, 9), 1);
        Due.is("its GOAL now", leader.find(0, 127), 9);
        Due.is("other books are not full", leader.put(1, 0, 0, 1), 0);
        leader = withFullBook(0);
        leader.drop(0, 127, 32);
        Due.is("63 are there", leader.put(0, 0, 0, 1), 0);
        Due.is("64 again", leader.put(0, 127, 32, 1), NONE);
        Due.is("the last of 64", leader.line(0, 63, 0), 125);
    }

    /** 3: "A LINE goes: true" */
    private static void dropGoes() {
        PrefixLeader leader = withFullBook(0);
        Due.is("the first", leader.drop(0, 1, 32), true);
        Due.is("the last", leader.drop(0, 127, 32), true);
        Due.is("one between", leader.drop(0, 65, 32), true);
        Due.is("three fewer", leader.count(0), 61);
        Due.is("first now", leader.line(0, 0, 0), 3);
        Due.is("last now", leader.line(0, 60, 0), 125);
        Due.is("none behind it", leader.line(0, 61, 0), NONE);
        Due.is("its ADDRESS", leader.find(0, 65), NOWHERE);
        leader = new PrefixLeader();
        leader.put(5, 0, 0, 16);
        Due.is("the only one, to NOWHERE", leader.drop(5, 0, 0), true);
        Due.is("empty now", leader.count(5), 0);
    }

    /** 3: "false: there is none such." */
    private static void dropNoneSuch() {
        for (int b : Scene.NO_BOOKS) {
            Scene.changesNothing("drop, book " + b, leader -> leader.drop(b, 0, 0) ? 1 : 0, 0);
        }
        for (int n : new int[] {-1, 1, 32, 33, 64, Scene.LOW, Scene.HIGH}) {
            Scene.changesNothing("drop, n " + n, leader -> leader.drop(0, 0, n) ? 1 : 0, 0);
        }
        for (int n : new int[] {-31, 0, 2, 31, 33}) {
            Scene.changesNothing("drop of the upper half, n " + n, leader -> leader.drop(0, 0x80000000, n) ? 1 : 0, 0);
        }
        for (int n : new int[] {-1, 31, 33, 64, Scene.LOW, Scene.HIGH}) {
            Scene.changesNothing("drop of the last ADDRESS, n " + n, leader -> leader.drop(0, -1, n) ? 1 : 0, 0);
        }
        Scene.changesNothing("drop, another bit", leader -> leader.drop(0, 1, 0) ? 1 : 0, 0);
        Scene.changesNothing("drop, one bit more", leader -> leader.drop(0, 0x80000001, 1) ? 1 : 0, 0);
        Scene.changesNothing("drop, an ADDRESS that is LED", leader -> leader.drop(0, 5, 32) ? 1 : 0, 0);
        Scene.changesNothing("drop of an empty book", leader -> leader.drop(2, 0, 0) ? 1 : 0, 0);
        Scene.changesNothing("drop of another book's", leader -> leader.drop(3, 0, 0) ? 1 : 0, 0);
        PrefixLeader leader = new PrefixLeader();
        leader.put(0, 0, 8, 1);
        Due.is("drop", leader.drop(0, 0, 8), true);
        Due.is("drop it again", leader.drop(0, 0, 8), false);
    }

    /** 4: "BOOK to gets the LINES of BOOK b (in place of its own): how many" */
    private static void copyInPlaceOfItsOwn() {
        PrefixLeader leader = Scene.made();
        Due.is("more than its own", leader.copy(0, 3), 3);
        Due.is("more than its own", Scene.lines(leader, 3), Scene.lines(leader, 0));
        Due.is("fewer than its own", leader.copy(1, 0), 2);
        Due.is("fewer than its own", Scene.lines(leader, 0), Scene.lines(leader, 1));
        leader.drop(1, 0, 4);
        leader.put(1, 0x80000000, 1, 9);
        Due.is("they are apart", Scene.lines(leader, 0), " 0/4->3 2147483648/1->4");
    }

    private static void copyOntoItself() {
        PrefixLeader leader = Scene.made();
        Due.is("onto itself", leader.copy(0, 0), 3);
        Due.is("onto itself", Scene.told(leader), Scene.told(Scene.made()));
        Due.is("an empty one onto itself", leader.copy(5, 5), 0);
    }

    private static void copyOfFullAndEmpty() {
        PrefixLeader leader = withFullBook(5);
        Due.is("a full one", leader.copy(5, 0), 64);
        Due.is("its last", leader.line(0, 63, 0), 127);
        Due.is("an empty one", leader.copy(1, 5), 0);
        Due.is("empty now", leader.count(5), 0);
        Due.is("none is left", leader.line(5, 0, 0), NONE);
        Due.is("the copy stays", leader.count(0), 64);
    }

    /** 4: "NONE: no such BOOKS." */
    private static void copyRefused() {
        for (int b : Scene.NO_BOOKS) {
            Scene.changesNothing("copy from " + b, leader -> leader.copy(b, 0), NONE);
            Scene.changesNothing("copy to " + b, leader -> leader.copy(0, b), NONE);
            Scene.changesNothing("copy onto itself, " + b, leader -> leader.copy(b, b), NONE);
        }
    }

    /** 5: "How many LINES BOOK b has" */
    private static void countFromNoneToFull() {
        PrefixLeader leader = new PrefixLeader();
        for (int i = 0; i < 64; i++) {
            Due.is("count", leader.count(4), i);
            leader.put(4, i, 32, 16);
        }
        Due.is("count of a full one", leader.count(4), 64);
        leader.put(4, 64, 32, 16);
        leader.put(4, 63, 32, 1);
        Due.is("no 65th", leader.count(4), 64);
        for (int i = 63; i >= 0; i--) {
            leader.drop(4, i, 32);
            Due.is("count", leader.count(4), i);
        }
    }

    /** 5: "NONE: no such BOOK." */
    private static void countRefused() {
        for (int b : Scene.NO_BOOKS) {
            Scene.changesNothing("count " + b, leader -> leader.count(b), NONE);
        }
    }

    /** 6: "Of the i-th LINE of BOOK b, what 0 its ADDRESS, 1 n, 2 GOAL" */
    private static void lineFirstAndLast() {
        PrefixLeader leader = withFullBook(0);
        leader.drop(0, 1, 32);
        leader.drop(0, 127, 32);
        leader.put(0, 0, 0, 0);
        leader.put(0, -1, 32, 16);
        long[][] due = {{0, 0, 0}, {3, 32, 1}, {125, 32, 14}, {Scene.LAST, 32, 16}};
        int[] places = {0, 1, 62, 63};
        for (int i = 0; i < 4; i++) {
            for (int what = 0; what < 3; what++) {
                Due.is("line " + places[i] + ", what " + what, leader.line(0, places[i], what), due[i][what]);
            }
        }
    }

    /** 6: "NONE for others." */
    private static void lineForOthers() {
        for (int what = 0; what < 3; what++) {
            int told = what;
            for (int b : Scene.NO_BOOKS) {
                Scene.changesNothing("line of book " + b, leader -> leader.line(b, 0, told), NONE);
            }
            for (int i : new int[] {-1, 3, 63, 64, 65, Scene.LOW, Scene.HIGH}) {
                Scene.changesNothing("line " + i, leader -> leader.line(0, i, told), NONE);
            }
            Scene.changesNothing("line of an empty book", leader -> leader.line(2, 0, told), NONE);
            PrefixLeader leader = withFullBook(0);
            Due.is("the 65th line", leader.line(0, 64, what), NONE);
            leader.drop(0, 1, 32);
            Due.is("the 64th, gone", leader.line(0, 63, what), NONE);
        }
        for (int what : new int[] {-1, 3, Scene.LOW, Scene.HIGH}) {
            Scene.changesNothing("line, what " + what, leader -> leader.line(0, 0, what), NONE);
        }
    }

    /** 7: "Where BOOK b LEADS an ADDRESS" */
    private static void findAtTheEdgesOfALine() {
        for (int n = 0; n <= 32; n++) {
            PrefixLeader leader = new PrefixLeader();
            int mask = n == 0 ? 0 : -1 << 32 - n;
            int first = 0xA5A5A5A5 & mask;
            leader.put(0, first, n, 0);
            Due.is("its first, n " + n, leader.find(0, first), 0);
            Due.is("its last, n " + n, leader.find(0, first | ~mask), 0);
            int outside = n == 0 ? 0 : NOWHERE;
            Due.is("one ahead, n " + n, leader.find(0, first - 1), outside);
            Due.is("one behind, n " + n, leader.find(0, (first | ~mask) + 1), outside);
            Due.is("the other half, n " + n, leader.find(0, first ^ 0x80000000), outside);
        }
        PrefixLeader leader = new PrefixLeader();
        leader.put(0, 0, 0, 4);
        leader.put(0, 0x80000000, 1, 16);
        Due.is("a LINE to NOWHERE", leader.find(0, -1), NOWHERE);
        Due.is("beside it", leader.find(0, 0x7FFFFFFF), 4);
    }

    /** 7: "NONE: no such BOOK." */
    private static void findRefused() {
        for (int b : Scene.NO_BOOKS) {
            Scene.changesNothing("find " + b, leader -> leader.find(b, 0), NONE);
        }
    }

    /** 8: "The place in BOOK b's order of the LINE by which it is LED" */
    private static void longestFirstAndLastPlace() {
        PrefixLeader leader = withFullBook(0);
        Due.is("the first place", leader.longest(0, 1), 0);
        Due.is("the last place", leader.longest(0, 127), 63);
        Due.is("between two", leader.longest(0, 2), NONE);
        leader.drop(0, 127, 32);
        leader.put(0, 0, 0, 1);
        Due.is("the empty one's place", leader.longest(0, -1), 0);
        Due.is("the most bits", leader.longest(0, 125), 63);
        Due.is("behind the others", leader.longest(0, 127), 0);
    }

    private static void longestToNowhere() {
        PrefixLeader leader = new PrefixLeader();
        leader.put(0, 0, 0, 16);
        leader.put(0, 0x80000000, 1, 16);
        Due.is("a LINE to NOWHERE is one", leader.longest(0, 0), 0);
        Due.is("and one below it", leader.longest(0, -1), 1);
    }

    /** 8: "NONE: there is none, no such BOOK." */
    private static void longestNone() {
        for (int b : Scene.NO_BOOKS) {
            Scene.changesNothing("longest " + b, leader -> leader.longest(b, 0), NONE);
        }
        Scene.changesNothing("longest of an empty book", leader -> leader.longest(2, 0), NONE);
        Scene.changesNothing("longest, one ahead", leader -> leader.longest(3, 0x7FFFFFFE), NONE);
        Scene.changesNothing("longest, one behind", leader -> leader.longest(3, 0x80000000), NONE);
        Scene.changesNothing("longest behind a LINE", leader -> leader.longest(1, 0x10000000), NONE);
    }
}
