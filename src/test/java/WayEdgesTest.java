/** The edges that WAYS and promises 19 to 21 name: way, step, led. */
public final class WayEdgesTest {
    private static final int NONE = Scene.NONE;
    private static final int NOWHERE = Scene.NOWHERE;
    private static final int[][] MANY = {
        {0, 0, 1}, {0, 32, 2}, {0x7FFFFFFF, 32, 3}, {0x80000000, 32, 4}, {-1, 32, 5}, {0x80000000, 1, 6},
    };

    public static void main(String[] args) {
        noStepNeeded();
        theBeginningOrTheGoal();
        putsOfMoreBitsFirst();
        dropsOfFewerBitsFirst();
        droppedWithTheGoalItHad();
        fromAndToAnEmptyBook();
        moreThan64Between();
        booksAsTheyAre();
        booksAsTheyWere();
        theLatestAlone();
        wayRefused();
        stepForOthers();
        ledBehindNoneAndAll();
        ledToNowhere();
        ledBehindTooMany();
        ledWithoutAWay();
        neverLedAstray();
        Due.end();
    }

    private static PrefixLeader withBooks(int[][] a, int[][] b) {
        PrefixLeader leader = new PrefixLeader();
        for (int[] line : a) {
            leader.put(0, line[0], line[1], line[2]);
        }
        for (int[] line : b) {
            leader.put(1, line[0], line[1], line[2]);
        }
        return leader;
    }

    private static void dueWay(String text, int[][] a, int[][] b, String steps) {
        PrefixLeader leader = withBooks(a, b);
        int size = leader.way(0, 1);
        Due.is(text, stepsOf(leader, size), steps);
        for (int what = 0; what < 4; what++) {
            Due.is(text + ": none behind the last", leader.step(size, what), NONE);
        }
    }

    private static String stepsOf(PrefixLeader leader, int size) {
        StringBuilder text = new StringBuilder();
        for (int i = 0; i < size; i++) {
            text.append(leader.step(i, 0) == 1 ? " +" : leader.step(i, 0) == 0 ? " -" : " ?");
            text.append(leader.step(i, 1)).append('/').append(leader.step(i, 2)).append("->").append(leader.step(i, 3));
        }
        return text.toString();
    }

    private static void noStepNeeded() {
        int[][] lines = {{0, 0, 16}, {0x80000000, 1, 0}, {-1, 32, 15}};
        dueWay("two empty ones", new int[0][], new int[0][], "");
        dueWay("like LINES", lines, lines, "");
        PrefixLeader leader = withBooks(lines, new int[0][]);
        Due.is("to itself", leader.way(0, 0), 0);
        Due.is("there is a WAY now", leader.led(0, -1), 15);
        Due.is("it has no STEP", leader.led(1, -1), NONE);
    }

    /** "first each LINE of b that a has not (the BEGINNING, or the GOAL) is put" */
    private static void theBeginningOrTheGoal() {
        dueWay("the GOAL", new int[][] {{0, 8, 1}}, new int[][] {{0, 8, 2}}, " +0/8->2");
        dueWay("the GOAL, NOWHERE", new int[][] {{0, 0, 0}}, new int[][] {{0, 0, 16}}, " +0/0->16");
        dueWay("n", new int[][] {{0, 8, 1}}, new int[][] {{0, 9, 1}}, " +0/9->1 -0/8->1");
        dueWay("the ADDRESS", new int[][] {{0, 1, 1}}, new int[][] {{0x80000000, 1, 1}}, " +2147483648/1->1 -0/1->1");
        dueWay("THE SAME by other LINES", new int[][] {{0, 0, 1}}, new int[][] {{0, 1, 1}, {0x80000000, 1, 1}},
                " +0/1->1 +2147483648/1->1 -0/0->1");
    }

    /** "those of more bits first, of like ones by ADDRESS" */
    private static void putsOfMoreBitsFirst() {
        dueWay("puts", new int[0][], MANY,
                " +0/32->2 +2147483647/32->3 +2147483648/32->4 +4294967295/32->5 +2147483648/1->6 +0/0->1");
    }

    /** "dropped, those of fewer bits first, of like ones by ADDRESS" */
    private static void dropsOfFewerBitsFirst() {
        dueWay("drops", MANY, new int[0][],
                " -0/0->1 -2147483648/1->6 -0/32->2 -2147483647/32->3 -2147483648/32->4 -4294967295/32->5");
        dueWay("puts ahead of drops", new int[][] {{0, 32, 1}}, new int[][] {{0, 0, 2}}, " +0/0->2 -0/32->1");
    }

    /** 20: "GOAL (that it had, if it is dropped)" */
    private static void droppedWithTheGoalItHad() {
        dueWay("NOWHERE", new int[][] {{0, 5, 16}}, new int[0][], " -0/5->16");
        dueWay("0", new int[][] {{0, 5, 0}}, new int[0][], " -0/5->0");
    }

    private static void fromAndToAnEmptyBook() {
        PrefixLeader leader = new PrefixLeader();
        for (int i = 0; i < 64; i++) {
            leader.put(0, i, 32, i % 16);
        }
        Due.is("64 drops", leader.way(0, 5), 64);
        Due.is("the first", leader.step(0, 0), 0);
        Due.is("the last", leader.step(63, 1), 63);
        Due.is("all gone", leader.led(64, 63), NOWHERE);
        Due.is("64 puts", leader.way(5, 0), 64);
        Due.is("the first", leader.step(0, 0), 1);
        Due.is("the last", leader.step(63, 3), 15);
        Due.is("all there", leader.led(64, 63), 15);
    }

    /** "(It may have more than 64 LINES between.)" */
    private static void moreThan64Between() {
        PrefixLeader leader = new PrefixLeader();
        for (int i = 0; i < 64; i++) {
            leader.put(0, 2 * i, 32, i % 16);
            leader.put(1, 2 * i + 1, 32, 15 - i % 16);
        }
        Due.is("128 STEPS", leader.way(0, 1), 128);
        for (int i = 0; i < 64; i++) {
            Due.is("128 LINES between, a's " + i, leader.led(64, 2 * i), i % 16);
            Due.is("128 LINES between, b's " + i, leader.led(64, 2 * i + 1), 15 - i % 16);
        }
        Due.is("the last put", leader.step(63, 1), 127);
        Due.is("the first dropped", leader.step(64, 1), 0);
        Due.is("the last dropped", leader.step(127, 1), 126);
        Due.is("ahead of the last STEP", leader.led(127, 126), 15);
        Due.is("behind it", leader.led(128, 126), NOWHERE);
        Due.is("no STEP 128", leader.step(128, 0), NONE);
        Due.is("no 129 STEPS", leader.led(129, 126), NONE);
        Due.is("the BOOKS stay", leader.count(0) + leader.count(1), 128);
    }

    /** 19: "as they are" */
    private static void booksAsTheyAre() {
        PrefixLeader leader = withBooks(new int[][] {{0, 0, 1}}, new int[][] {{0, 0, 2}});
        Due.is("a first WAY", leader.way(0, 1), 1);
        leader.put(0, 0, 0, 2);
        Due.is("as they are now", leader.way(0, 1), 0);
        leader.drop(1, 0, 0);
        Due.is("and now", leader.way(0, 1), 1);
        Due.is("a LINE is dropped", leader.step(0, 0), 0);
    }

    /** 19: "is told from now on", 21: "(by BOOKS as they were then)" */
    private static void booksAsTheyWere() {
        PrefixLeader leader = Scene.made();
        String before = Scene.way(leader);
        leader.put(0, 0, 0, 9);
        leader.put(1, 0, 32, 9);
        leader.drop(0, 0x80000000, 1);
        Due.is("behind put and drop", Scene.way(leader), before);
        leader.copy(2, 0);
        leader.copy(3, 1);
        Due.is("behind copy", Scene.way(leader), before);
        leader.least(3, 0);
        leader.combine(0, 0, 3, 1);
        leader.cover(0, -1);
        Due.is("behind least, combine and cover", Scene.way(leader), before);
        Due.is("a as it was", leader.led(0, -1), 16);
        Due.is("and beside", leader.led(0, -2), 2);
    }

    /** 20 and 21: "of the latest WAY" */
    private static void theLatestAlone() {
        PrefixLeader leader = Scene.made();
        Due.is("a WAY of one", leader.way(2, 3), 1);
        Due.is("its STEP", leader.step(0, 1), 0x7FFFFFFFL);
        Due.is("none of the one before", leader.step(1, 0), NONE);
        Due.is("not so many", leader.led(2, 0), NONE);
        Due.is("by its own a", leader.led(0, 0), NOWHERE);
        Due.is("by its own b", leader.led(1, 0x7FFFFFFF), 5);
        Due.is("a WAY of none", leader.way(3, 3), 0);
        Due.is("no STEP", leader.step(0, 0), NONE);
        Due.is("but LED", leader.led(0, 0x7FFFFFFF), 5);
    }

    /** 19: "NONE: no such BOOKS." */
    private static void wayRefused() {
        for (int b : Scene.NO_BOOKS) {
            Scene.changesNothing("way from " + b, leader -> leader.way(b, 0), NONE);
            Scene.changesNothing("way to " + b, leader -> leader.way(0, b), NONE);
            Scene.changesNothing("way, twice " + b, leader -> leader.way(b, b), NONE);
        }
        PrefixLeader leader = new PrefixLeader();
        Due.is("the first is refused", leader.way(0, 6), NONE);
        Due.is("there is none yet", leader.led(0, 0), NONE);
    }

    /** 20: "NONE for others." */
    private static void stepForOthers() {
        Due.is("STEPS of the scene", Scene.made().step(3, 0), 0);
        for (int what = 0; what < 4; what++) {
            int told = what;
            for (int i : new int[] {-1, 4, 127, 128, Scene.LOW, Scene.HIGH}) {
                Scene.changesNothing("step " + i, leader -> leader.step(i, told), NONE);
            }
            Due.is("without a WAY", new PrefixLeader().step(0, what), NONE);
            Due.is("without a WAY, -1", new PrefixLeader().step(-1, what), NONE);
        }
        for (int what : new int[] {-1, 4, Scene.LOW, Scene.HIGH}) {
            Scene.changesNothing("put's step, what " + what, leader -> leader.step(0, what), NONE);
            Scene.changesNothing("drop's step, what " + what, leader -> leader.step(3, what), NONE);
        }
    }

    /** 21: "Where an ADDRESS is LED behind the first k STEPS" */
    private static void ledBehindNoneAndAll() {
        PrefixLeader leader = Scene.made();
        for (int address : new int[] {0, 0x0FFFFFFF, 0x10000000, 0x7FFFFFFF, 0x80000000, -2, -1}) {
            Due.is("behind none, as by a", leader.led(0, address), leader.find(0, address));
            Due.is("behind all, as by b", leader.led(4, address), leader.find(1, address));
        }
        Due.is("behind the first", leader.led(1, 0), 3);
        Due.is("not yet put", leader.led(1, 0x80000000), 2);
        Due.is("put", leader.led(2, 0x80000000), 4);
        Due.is("not yet dropped", leader.led(2, 0x10000000), 1);
        Due.is("dropped", leader.led(3, 0x10000000), NOWHERE);
        Due.is("the last to be dropped", leader.led(3, -1), NOWHERE);
        Due.is("dropped too", leader.led(4, -1), 4);
    }

    private static void ledToNowhere() {
        PrefixLeader leader = withBooks(new int[][] {{0, 0, 16}}, new int[][] {{0, 0, 0}});
        leader.way(0, 1);
        Due.is("by a LINE to NOWHERE", leader.led(0, 0), NOWHERE);
        Due.is("to GOAL 0", leader.led(1, 0), 0);
        leader.way(1, 0);
        Due.is("from GOAL 0", leader.led(0, -1), 0);
        Due.is("to NOWHERE by a LINE", leader.led(1, -1), NOWHERE);
        leader.way(1, 2);
        Due.is("to NOWHERE by none", leader.led(1, -1), NOWHERE);
    }

    /** 21: "NONE: it has not so many" */
    private static void ledBehindTooMany() {
        for (int k : new int[] {-1, 5, 128, 129, Scene.LOW, Scene.HIGH}) {
            Scene.changesNothing("led, k " + k, leader -> leader.led(k, 0), NONE);
        }
    }

    /** 21: "or there is none" */
    private static void ledWithoutAWay() {
        for (int k : new int[] {-2, -1, 0, 1, Scene.LOW, Scene.HIGH}) {
            Due.is("no WAY, k " + k, new PrefixLeader().led(k, 0), NONE);
        }
    }

    /** "ways from one book to another on which no address is ever led astray" */
    private static void neverLedAstray() {
        int[][] a = {{0, 0, 1}, {0, 1, 2}, {0x40000000, 2, 3}, {0x60000000, 3, 4}, {-1, 32, 5}};
        int[][] b = {{0, 1, 6}, {0x40000000, 3, 7}, {0x80000000, 1, 8}, {0xC0000000, 2, 16}};
        int[] addresses = {0, 0x3FFFFFFF, 0x40000000, 0x5FFFFFFF, 0x60000000, 0x7FFFFFFF, 0x80000000, 0xC0000000, -2, -1};
        PrefixLeader leader = withBooks(a, b);
        int size = leader.way(0, 1);
        for (int address : addresses) {
            int first = leader.find(0, address);
            int last = leader.find(1, address);
            boolean turned = false;
            for (int k = 0; k <= size; k++) {
                int goal = leader.led(k, address);
                turned |= goal != first;
                Due.is("as by a, then as by b: led(" + k + ", " + address + ")", goal, turned ? last : first);
            }
        }
    }
}
