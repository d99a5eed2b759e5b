/** The edges that THE LEAST, THE SET and promises 9, 10 and 16 name: least, set, combine. */
public final class LeastEdgesTest {
    private static final int NONE = Scene.NONE;

    public static void main(String[] args) {
        setOfOneGoalAlone();
        setOfAllBits();
        setOfWhatBothHave();
        setOfAllOfBoth();
        setBesideAllLines();
        setOfFull();
        setRefused();
        nowhereComesToTheEmptyOne();
        theLeastGoalOfTheSet();
        whatComesToBothSides();
        nothingBelowOneGoal();
        leastOfEmptyAndFull();
        leastOfTheDeepest();
        leastInPlaceOfItsOwn();
        leastRefused();
        joined();
        met();
        less();
        combineOfEmpty();
        combineOntoItsOwn();
        combineOf64();
        combineOfMoreThan64();
        combineOfTwoFull();
        combineRefused();
        Due.end();
    }

    private static PrefixLeader withLines(int[]... lines) {
        PrefixLeader leader = new PrefixLeader();
        for (int[] line : lines) {
            leader.put(0, line[0], line[1], line[2]);
        }
        return leader;
    }

    private static void dueLeast(String text, String lines, int[]... of) {
        PrefixLeader leader = withLines(of);
        int many = leader.least(0, 1);
        Due.is(text, Scene.lines(leader, 1), lines);
        Due.is(text + ": how many", many, leader.count(1));
        Due.is(text + ": the same", leader.same(0, 1), 1);
    }

    /** "if all ADDRESSES that begin with p are LED to one GOAL, that alone" */
    private static void setOfOneGoalAlone() {
        PrefixLeader leader = withLines(new int[] {0, 0, 0}, new int[] {0, 1, 0}, new int[] {0x80000000, 1, 15});
        Due.is("by a LINE and one below it", leader.set(0, 0, 1), 1);
        Due.is("by a LINE above it", leader.set(0, 0x40000000, 2), 1);
        Due.is("of the last GOAL", leader.set(0, 0x80000000, 1), 1 << 15);
        Due.is("by none", leader.set(1, 0, 0), 1 << 16);
        leader.put(1, 0, 0, 16);
        Due.is("by a LINE to NOWHERE", leader.set(1, 0, 0), 1 << 16);
        leader.put(1, 0, 0, 5);
        leader.put(1, 0, 1, 7);
        leader.put(1, 0x80000000, 1, 7);
        Due.is("a LINE that LEADS none counts none", leader.set(1, 0, 0), 1 << 7);
    }

    /** "for a BEGINNING p of fewer than 32 bits": one of 32 has no two below it. */
    private static void setOfAllBits() {
        PrefixLeader leader = withLines(new int[] {0, 32, 1}, new int[] {1, 32, 2}, new int[] {-1, 32, 3});
        Due.is("the first ADDRESS", leader.set(0, 0, 32), 1 << 1);
        Due.is("the second", leader.set(0, 1, 32), 1 << 2);
        Due.is("the third", leader.set(0, 2, 32), 1 << 16);
        Due.is("the last", leader.set(0, -1, 32), 1 << 3);
        Due.is("the last but one", leader.set(0, -2, 32), 1 << 16);
        Due.is("31 bits, the first", leader.set(0, 0, 31), 1 << 1 | 1 << 2);
        Due.is("31 bits, the last", leader.set(0, -2, 31), 1 << 3 | 1 << 16);
    }

    /** "what both have, if there is such" */
    private static void setOfWhatBothHave() {
        PrefixLeader leader = withLines(new int[] {0, 2, 1}, new int[] {0x40000000, 2, 2},
                new int[] {0x80000000, 2, 2}, new int[] {0xC0000000, 2, 3});
        Due.is("one of them", leader.set(0, 0, 0), 1 << 2);
        leader.put(0, 0xC0000000, 2, 1);
        Due.is("two of them", leader.set(0, 0, 0), 1 << 1 | 1 << 2);
        leader.put(0, 0x40000000, 2, 16);
        leader.put(0, 0x80000000, 2, 16);
        Due.is("NOWHERE too", leader.set(0, 0, 0), 1 << 1 | 1 << 16);
        leader.put(1, 0, 32, 4);
        Due.is("what is beside, 31 bits", leader.set(1, 0, 31), 1 << 4 | 1 << 16);
        for (int n = 0; n <= 30; n++) {
            Due.is("what is beside, n " + n, leader.set(1, 0, n), 1 << 16);
        }
    }

    /** "else all of both" */
    private static void setOfAllOfBoth() {
        PrefixLeader leader = new PrefixLeader();
        for (int i = 0; i < 16; i++) {
            leader.put(0, i << 27, 5, i);
        }
        Due.is("all of 0 to 15", leader.set(0, 0, 1), 0xFFFF);
        Due.is("and NOWHERE", leader.set(0, 0, 0), 0x1FFFF);
        Due.is("two of them", leader.set(0, 0x70000000, 4), 0xC000);
        leader.put(0, 0x80000000, 1, 0);
        Due.is("not if both have one", leader.set(0, 0, 0), 1);
    }

    private static void setBesideAllLines() {
        PrefixLeader leader = withLines(new int[] {0x40000000, 3, 1}, new int[] {0x50000000, 4, 2}, new int[] {0x80000000, 2, 3});
        Due.is("ahead of the first", leader.set(0, 0, 2), 1 << 16);
        Due.is("between two", leader.set(0, 0x60000000, 3), 1 << 16);
        Due.is("in one, ahead of one in it", leader.set(0, 0x40000000, 4), 1 << 1);
        Due.is("behind the last", leader.set(0, 0xC0000000, 2), 1 << 16);
        leader.drop(0, 0x80000000, 2);
        Due.is("where the last was", leader.set(0, 0x80000000, 2), 1 << 16);
    }

    private static void setOfFull() {
        PrefixLeader leader = new PrefixLeader();
        for (int i = 0; i < 64; i++) {
            leader.put(0, i << 26, 6, i < 32 ? 1 : 2);
        }
        Due.is("of all LINES", leader.set(0, 0, 0), 1 << 1 | 1 << 2);
        Due.is("of the last ones", leader.set(0, 0x80000000, 1), 1 << 2);
        Due.is("of the last one", leader.set(0, 0xFC000000, 6), 1 << 2);
        Due.is("below the last one", leader.set(0, -1, 32), 1 << 2);
        leader.put(0, 0xFC000000, 6, 3);
        Due.is("of the last two", leader.set(0, 0xF8000000, 5), 1 << 2 | 1 << 3);
        leader.drop(0, 0xFC000000, 6);
        Due.is("the last has gone", leader.set(0, 0xF8000000, 5), 1 << 2 | 1 << 16);
    }

    /** 10: "NONE: no such BOOK, BEGINNING." */
    private static void setRefused() {
        for (int b : Scene.NO_BOOKS) {
            Scene.changesNothing("set of book " + b, leader -> leader.set(b, 0, 0), NONE);
        }
        for (int n : new int[] {-1, 33, 64, Scene.LOW, Scene.HIGH}) {
            Scene.changesNothing("set, n " + n, leader -> leader.set(0, 0, n), NONE);
            Scene.changesNothing("set of the last ADDRESS, n " + n, leader -> leader.set(0, -1, n), NONE);
        }
        Scene.changesNothing("set, the first bit, n 0", leader -> leader.set(0, 0x80000000, 0), NONE);
        Scene.changesNothing("set, the last bit, n 31", leader -> leader.set(0, 1, 31), NONE);
        Scene.changesNothing("set, the last bit, n 0", leader -> leader.set(0, 1, 0), NONE);
    }

    /** "From the empty BEGINNING on, to which NOWHERE comes" */
    private static void nowhereComesToTheEmptyOne() {
        dueLeast("NOWHERE alone", "", new int[] {0, 0, 16});
        dueLeast("a half is NOWHERE", " 0/1->0", new int[] {0, 1, 0});
        dueLeast("the other half", " 2147483648/1->0", new int[] {0x80000000, 1, 0});
        dueLeast("all but one ADDRESS", " 0/0->0 4294967295/32->16", new int[] {0, 0, 0}, new int[] {-1, 32, 16});
        dueLeast("one ADDRESS alone", " 4294967295/32->15", new int[] {-1, 32, 15});
        dueLeast("a LINE to NOWHERE below NOWHERE", " 0/1->3", new int[] {0, 1, 3}, new int[] {0x80000000, 9, 16});
    }

    /** "else there is a LINE of p, with the least GOAL of THE SET" */
    private static void theLeastGoalOfTheSet() {
        dueLeast("0 of 0 and 15", " 0/0->0 0/1->15", new int[] {0, 1, 15}, new int[] {0x80000000, 1, 0});
        dueLeast("1 of 1 and 2", " 0/0->1 2147483648/1->2", new int[] {0, 1, 1}, new int[] {0x80000000, 1, 2});
        dueLeast("of both sides' the least", " 0/0->2 0/2->9 2147483648/2->8", new int[] {0, 2, 9},
                new int[] {0x40000000, 2, 2}, new int[] {0x80000000, 2, 8}, new int[] {0xC0000000, 2, 2});
        // Below 5 the pair of 3 and NOWHERE stands deep enough to be a LINE of its own.
        dueLeast("3 of 3 and NOWHERE", " 0/0->5 0/2->3 536870912/3->16",
                new int[] {0, 0, 5}, new int[] {0, 3, 3}, new int[] {0x20000000, 3, 16});
        dueLeast("NOWHERE, if it is alone", " 0/0->5 0/8->16", new int[] {0, 0, 5}, new int[] {0, 8, 16});
    }

    /** "What comes to p0 and p1 is the GOAL of p's LINE, or without one what came to p." */
    private static void whatComesToBothSides() {
        dueLeast("the GOAL of the LINE", " 0/0->1 1073741824/2->2 3221225472/2->3", new int[] {0, 2, 1},
                new int[] {0x40000000, 2, 2}, new int[] {0x80000000, 2, 1}, new int[] {0xC0000000, 2, 3});
        dueLeast("what came from far above", " 0/0->6 0/32->7 4294967295/32->8", new int[] {0, 0, 6},
                new int[] {0, 32, 7}, new int[] {-1, 32, 8});
        dueLeast("a LINE beside the lower twin", " 0/0->5 0/2->4 1610612736/3->6", new int[] {0, 0, 4},
                new int[] {0x80000000, 1, 5}, new int[] {0x40000000, 2, 5}, new int[] {0x60000000, 3, 6});
        dueLeast("a LINE beside the upper twin", " 0/0->5 536870912/3->6 1073741824/2->4", new int[] {0, 0, 4},
                new int[] {0x80000000, 1, 5}, new int[] {0, 2, 5}, new int[] {0x20000000, 3, 6});
        dueLeast("NOWHERE from far above", " 1/32->7 4294967294/32->8", new int[] {1, 32, 7}, new int[] {-2, 32, 8});
    }

    /** "Below a p whose ADDRESSES are all LED to one GOAL there is nothing." */
    private static void nothingBelowOneGoal() {
        dueLeast("33 LINES of one GOAL", " 0/0->4", nested(4, 4));
        dueLeast("two halves of one GOAL", " 0/0->4", new int[] {0, 1, 4}, new int[] {0x80000000, 1, 4});
        dueLeast("two halves hide a LINE", " 0/0->4",
                new int[] {0, 0, 9}, new int[] {0, 1, 4}, new int[] {0x80000000, 1, 4});
        dueLeast("the last two ADDRESSES", " 4294967294/31->4", new int[] {-2, 32, 4}, new int[] {-1, 32, 4});
        dueLeast("two that are no pair", " 1/32->4 2/32->4", new int[] {1, 32, 4}, new int[] {2, 32, 4});
    }

    private static int[][] nested(int even, int odd) {
        int[][] lines = new int[33][];
        for (int n = 0; n <= 32; n++) {
            lines[n] = new int[] {0, n, n % 2 == 0 ? even : odd};
        }
        return lines;
    }

    /** 9: "BOOK to becomes THE LEAST of BOOK b: how many LINES" */
    private static void leastOfEmptyAndFull() {
        PrefixLeader leader = new PrefixLeader();
        Due.is("of an empty one", leader.least(0, 1), 0);
        for (int i = 0; i < 64; i++) {
            leader.put(0, 2 * i + 1, 32, i % 16);
            leader.put(2, i, 32, 9);
            leader.put(3, 0xFFFFFFC0 | i, 32, i % 2);
        }
        Due.is("of 64, all needed", leader.least(0, 1), 64);
        Due.is("the last of them", leader.line(1, 63, 0), 127);
        Due.is("of 64, one will do", leader.least(2, 1), 1);
        Due.is("of 64, one will do", Scene.lines(leader, 1), " 0/26->9");
        Due.is("of 64 by turns", leader.least(3, 1), 33);
        Due.is("the last ADDRESS", leader.line(1, 32, 0), Scene.LAST);
        Due.is("its GOAL", leader.line(1, 32, 2), 1);
    }

    private static void leastOfTheDeepest() {
        PrefixLeader leader = withLines(nested(1, 2));
        int many = leader.least(0, 1);
        Due.is("33 in one another: the same", leader.same(0, 1), 1);
        Due.is("not more", many <= 33, true);
        Due.is("none fewer by another turn", leader.least(1, 2), many);
        Due.is("and they stay", Scene.lines(leader, 2), Scene.lines(leader, 1));
        Due.is("the first ADDRESS", leader.find(1, 0), 1);
        Due.is("the last ADDRESS", leader.find(1, -1), 1);
        leader.put(0, 0, 32, 5);
        leader.least(0, 1);
        Due.is("a LINE of its own for the deepest", leader.line(1, leader.longest(1, 0), 1), 32);
        Due.is("the same", leader.same(0, 1), 1);
    }

    private static void leastInPlaceOfItsOwn() {
        PrefixLeader leader = Scene.made();
        leader.put(3, 0x7FFFFFFE, 32, 5);
        Due.is("fewer than its own", leader.least(3, 0), 1);
        Due.is("fewer than its own", Scene.lines(leader, 0), " 2147483646/31->5");
        Due.is("its source stays", leader.count(3), 2);
        Due.is("onto itself", leader.least(3, 3), 1);
        Due.is("onto itself", Scene.lines(leader, 3), " 2147483646/31->5");
        Due.is("of an empty one", leader.least(2, 1), 0);
        Due.is("of an empty one", Scene.lines(leader, 1), "");
    }

    /** 9: "NONE: no such BOOKS." */
    private static void leastRefused() {
        for (int b : Scene.NO_BOOKS) {
            Scene.changesNothing("least of " + b, leader -> leader.least(b, 0), NONE);
            Scene.changesNothing("least to " + b, leader -> leader.least(0, b), NONE);
        }
    }

    private static void dueCombined(String text, int how, int goalOfA, int goalOfB, int due) {
        PrefixLeader leader = new PrefixLeader();
        leader.put(0, 0, 0, goalOfA);
        leader.put(1, 0, 0, goalOfB);
        Due.is(text, leader.combine(how, 0, 1, 2), due == 16 ? 0 : 1);
        Due.is(text + ": the first ADDRESS", leader.find(2, 0), due);
        Due.is(text + ": the last ADDRESS", leader.find(2, -1), due);
    }

    /** "JOINED: as by a, where that is not NOWHERE, else as by b" */
    private static void joined() {
        dueCombined("JOINED, both", 0, 15, 0, 15);
        dueCombined("JOINED, 0 is a GOAL", 0, 0, 15, 0);
        dueCombined("JOINED, a NOWHERE", 0, 16, 15, 15);
        dueCombined("JOINED, b NOWHERE", 0, 15, 16, 15);
        dueCombined("JOINED, both NOWHERE", 0, 16, 16, 16);
    }

    /** "MET: as by both where they LEAD alike, else NOWHERE" */
    private static void met() {
        dueCombined("MET, alike", 1, 15, 15, 15);
        dueCombined("MET, alike 0", 1, 0, 0, 0);
        dueCombined("MET, not alike", 1, 0, 1, 16);
        dueCombined("MET, a NOWHERE", 1, 16, 1, 16);
        dueCombined("MET, b NOWHERE", 1, 1, 16, 16);
        dueCombined("MET, both NOWHERE", 1, 16, 16, 16);
    }

    /** "LESS: as by a where b LEADS to NOWHERE, else NOWHERE" */
    private static void less() {
        dueCombined("LESS, b NOWHERE", 2, 15, 16, 15);
        dueCombined("LESS, alike", 2, 15, 15, 16);
        dueCombined("LESS, not alike", 2, 1, 0, 16);
        dueCombined("LESS, a NOWHERE", 2, 16, 0, 16);
        dueCombined("LESS, both NOWHERE", 2, 16, 16, 16);
    }

    private static void combineOfEmpty() {
        int[][] due = {{3, 3, 0}, {0, 0, 0}, {3, 0, 0}};
        for (int how = 0; how < 3; how++) {
            PrefixLeader leader = Scene.made();
            leader.put(0, 0, 0, 3);
            Due.is("with an empty one, how " + how, leader.combine(how, 0, 2, 4), due[how][0]);
            Due.is("of an empty one, how " + how, leader.combine(how, 2, 0, 4), due[how][1]);
            Due.is("of two empty ones, how " + how, leader.combine(how, 2, 5, 4), due[how][2]);
            Due.is("in place of its own, how " + how, leader.count(4), 0);
        }
    }

    private static void combineOntoItsOwn() {
        String[] due = {" 0/0->1 2147483648/1->2 4294967295/32->16", " 0/0->1 2147483648/1->2 4294967295/32->16", ""};
        for (int how = 0; how < 3; how++) {
            PrefixLeader leader = Scene.made();
            leader.combine(how, 0, 0, 0);
            Due.is("a, b and to are one, how " + how, Scene.lines(leader, 0), due[how]);
        }
        for (int how = 0; how < 3; how++) {
            PrefixLeader apart = Scene.made();
            apart.combine(how, 0, 1, 4);
            PrefixLeader ontoA = Scene.made();
            ontoA.combine(how, 0, 1, 0);
            PrefixLeader ontoB = Scene.made();
            ontoB.combine(how, 0, 1, 1);
            Due.is("onto a, how " + how, Scene.lines(ontoA, 0), Scene.lines(apart, 4));
            Due.is("onto b, how " + how, Scene.lines(ontoB, 1), Scene.lines(apart, 4));
        }
    }

    private static PrefixLeader withLeaves(int ofA, int ofB) {
        PrefixLeader leader = new PrefixLeader();
        for (int i = 0; i < ofA; i++) {
            leader.put(0, 4 * i + 1, 32, 1);
        }
        for (int i = 0; i < ofB; i++) {
            leader.put(1, 4 * i + 3, 32, 2);
        }
        leader.put(2, 0, 3, 5);
        return leader;
    }

    /** 16: "how many LINES" */
    private static void combineOf64() {
        for (int ofA : new int[] {0, 1, 32, 63, 64}) {
            PrefixLeader leader = withLeaves(ofA, 64 - ofA);
            Due.is("64 of " + ofA + " and others", leader.combine(0, 0, 1, 2), 64);
            Due.is("it becomes them", leader.count(2), 64);
            Due.is("its own has gone", leader.find(2, 0), 16);
        }
    }

    /** 16: "-2: more than 64 (it stays)" */
    private static void combineOfMoreThan64() {
        for (int ofA : new int[] {1, 2, 33, 63, 64}) {
            for (int more : new int[] {1, 2, ofA}) {
                int ofB = Math.min(64 - ofA + more, 64);
                PrefixLeader leader = withLeaves(ofA, ofB);
                String text = ofA + " and " + ofB + " LINES";
                Due.is(text, leader.combine(0, 0, 1, 2), -2);
                Due.is(text + ": it stays", Scene.lines(leader, 2), " 0/3->5");
                Due.is(text + ": a stays", leader.count(0), ofA);
                Due.is(text + ": b stays", leader.count(1), ofB);
            }
        }
        PrefixLeader leader = withLeaves(64, 64);
        Due.is("onto a", leader.combine(0, 0, 1, 0), -2);
        Due.is("onto b", leader.combine(0, 0, 1, 1), -2);
        Due.is("a stays", leader.share(0, 1), 64);
        Due.is("b stays", leader.share(1, 2), 64);
        leader.cover(0, 0);
        leader.way(0, 2);
        Due.is("again", leader.combine(0, 1, 0, 2), -2);
        Due.is("the COVER stays", leader.piece(0, 1), 32);
        Due.is("the WAY stays", leader.step(0, 2), 3);
    }

    /** Two full BOOKS without a LINE in common: 128 LINES, of which fewer than 64 are left. */
    private static void combineOfTwoFull() {
        PrefixLeader leader = new PrefixLeader();
        for (int i = 0; i < 64; i++) {
            leader.put(0, 0x80000000 | 2 * i, 32, 6);
            leader.put(1, 0x80000000 | 2 * i + 1, 32, 6);
        }
        Due.is("JOINED, all in one", leader.combine(0, 0, 1, 2), 1);
        Due.is("JOINED, all in one", Scene.lines(leader, 2), " 2147483648/25->6");
        Due.is("MET", leader.combine(1, 0, 1, 2), 0);
        Due.is("LESS", leader.combine(2, 0, 1, 2), 64);
        Due.is("LESS is a", leader.same(2, 0), 1);
        Due.is("LESS, the last", leader.find(2, 0x8000007E), 6);
        leader.copy(0, 1);
        Due.is("JOINED to its like", leader.combine(0, 0, 1, 2), 64);
        Due.is("MET with its like", leader.combine(1, 0, 1, 2), 64);
        Due.is("LESS its like", leader.combine(2, 0, 1, 2), 0);
    }

    /** 16: "NONE: no such BOOKS, how." */
    private static void combineRefused() {
        for (int how = 0; how < 3; how++) {
            int told = how;
            for (int b : Scene.NO_BOOKS) {
                Scene.changesNothing("combine " + b, leader -> leader.combine(told, b, 1, 0), NONE);
                Scene.changesNothing("combine with " + b, leader -> leader.combine(told, 0, b, 0), NONE);
                Scene.changesNothing("combine to " + b, leader -> leader.combine(told, 0, 1, b), NONE);
            }
        }
        for (int how : new int[] {-1, 3, Scene.LOW, Scene.HIGH}) {
            Scene.changesNothing("combine, how " + how, leader -> leader.combine(how, 0, 1, 0), NONE);
        }
    }
}
