import java.util.ArrayList;
import java.util.List;
import java.util.Random;

/** Runs of calls by a fixed seed, right and wrong ones, each compared with the plain reference. */
public final class RandomRunsTest {
    private static final int RUNS = 600;
    private static final int CALLS = 512;

    private final Random random;
    private final String name;
    private final int style;
    private final int goals;
    private final int[] bases;
    private final PrefixLeader leader = new PrefixLeader();
    private final Reference.Book[] books = new Reference.Book[6];
    private List<Reference.Line> cover = new ArrayList<>();
    private List<Reference.Step> way = null;
    private Reference.Book wayStart = null;
    private int calls = 0;

    private RandomRunsTest(int run) {
        random = new Random(run);
        name = "run " + run + " ";
        style = run % 5;
        goals = run % 3 == 0 ? 17 : 2 + run % 2;
        bases = new int[] {random.nextInt(), random.nextInt(), 0, -1};
        for (int b = 0; b < 6; b++) {
            books[b] = new Reference.Book();
        }
    }

    public static void main(String[] args) {
        for (int run = 0; run < RUNS && Due.wrong() < 20; run++) {
            new RandomRunsTest(run).go();
        }
        Due.end();
    }

    private void go() {
        int puts = 30 + random.nextInt(170);
        while (calls < CALLS && Due.wrong() < 20) {
            if (calls < puts || random.nextInt(3) == 0) {
                put();
            } else {
                oneOfAll();
            }
        }
    }

    private void oneOfAll() {
        switch (random.nextInt(20)) {
            case 0 -> drop();
            case 1 -> copy();
            case 2 -> dump(book());
            case 3 -> findAndLongest();
            case 4 -> least();
            case 5, 6 -> set();
            case 7, 8 -> spans();
            case 9 -> share();
            case 10, 11 -> differ();
            case 12, 13 -> combine();
            case 14 -> cover();
            case 15, 16 -> way();
            case 17 -> led();
            case 18 -> nodes();
            default -> steps();
        }
    }

    private void due(String call, long got, long want) {
        calls++;
        // What later calls answer is free.
        if (calls <= CALLS) {
            Due.is(name + call, got, want);
        }
    }

    private int book() {
        return random.nextInt(30) == 0 ? wrongNumber(6) : random.nextInt(random.nextInt(4) == 0 ? 6 : 2);
    }

    private int wrongNumber(int bound) {
        int[] wrong = {-1, bound, bound + 1, Integer.MIN_VALUE, Integer.MAX_VALUE};
        return wrong[random.nextInt(wrong.length)];
    }

    private boolean isBook(int b) {
        return b >= 0 && b < 6;
    }

    private int length() {
        switch (style) {
            case 0:
                return random.nextInt(33);
            case 1:
                return random.nextInt(6);
            case 2:
                return 27 + random.nextInt(6);
            case 3:
                return Math.min(32, random.nextInt(4) + 6 * random.nextInt(6));
            default:
                return random.nextInt(9);
        }
    }

    private int goal() {
        return random.nextInt(4) == 0 ? 16 : random.nextInt(goals);
    }

    private int address() {
        int address = bases[random.nextInt(bases.length)];
        switch (style) {
            case 1:
            case 4:
                return random.nextInt();
            case 2:
                return address ^ random.nextInt(64);
            default:
                return random.nextBoolean() ? address : address ^ 1 << random.nextInt(32);
        }
    }

    private static int first(int address, int n) {
        return (int) Reference.cut(wide(address), n);
    }

    private static long wide(int address) {
        return Integer.toUnsignedLong(address);
    }

    private static boolean isBeginning(int address, int n) {
        return n >= 0 && n <= 32 && first(address, n) == address;
    }

    private void put() {
        int b = book();
        int n = random.nextInt(40) == 0 ? wrongNumber(33) : length();
        int start = n < 0 || n > 32 || random.nextInt(40) == 0 ? address() : first(address(), n);
        int goal = random.nextInt(40) == 0 ? wrongNumber(17) : goal();
        int want;
        if (!isBook(b) || !isBeginning(start, n) || goal < 0 || goal > 16) {
            want = -1;
        } else if (books[b].has(wide(start), n)) {
            want = 1;
        } else {
            want = books[b].size() >= 64 ? -1 : 0;
        }
        if (want >= 0) {
            books[b].put(new Reference.Line(wide(start), n, goal));
        }
        due("put(" + b + ", " + start + ", " + n + ", " + goal + ")", leader.put(b, start, n, goal), want);
    }

    private void drop() {
        int b = book();
        int n = random.nextInt(10) == 0 ? wrongNumber(33) : length();
        int start = n < 0 || n > 32 || random.nextInt(10) == 0 ? address() : first(address(), n);
        if (isBook(b) && !books[b].isEmpty() && random.nextInt(3) > 0) {
            Reference.Line line = books[b].lines().get(random.nextInt(books[b].size()));
            n = line.n();
            start = (int) line.address();
        }
        boolean want = isBook(b) && isBeginning(start, n) && books[b].drop(wide(start), n) != null;
        due("drop(" + b + ", " + start + ", " + n + ")", leader.drop(b, start, n) ? 1 : 0, want ? 1 : 0);
    }

    private void copy() {
        int b = book();
        int to = book();
        boolean right = isBook(b) && isBook(to);
        due("copy(" + b + ", " + to + ")", leader.copy(b, to), right ? books[b].size() : -1);
        if (right) {
            become(to, books[b]);
            dump(to);
        }
    }

    private void become(int to, Reference.Book lines) {
        Reference.Book book = new Reference.Book();
        book.putAll(lines);
        books[to] = book;
    }

    private void dump(int b) {
        due("count(" + b + ")", leader.count(b), isBook(b) ? books[b].size() : -1);
        List<Reference.Line> lines = isBook(b) ? books[b].lines() : new ArrayList<>();
        for (int i = -1; i <= lines.size(); i++) {
            Reference.Line line = i < 0 || i >= lines.size() ? null : lines.get(i);
            String call = "line(" + b + ", " + i + ", ";
            due(call + "0)", leader.line(b, i, 0), line == null ? -1 : line.address());
            due(call + "1)", leader.line(b, i, 1), line == null ? -1 : line.n());
            due(call + "2)", leader.line(b, i, 2), line == null ? -1 : line.goal());
            due(call + "3)", leader.line(b, i, 3), -1);
        }
    }

    private void findAndLongest() {
        int b = book();
        for (int i = 0; i < 5; i++) {
            int address = address();
            Reference.Line line = isBook(b) ? books[b].longest(wide(address)) : null;
            int place = line == null ? -1 : books[b].lines().indexOf(line);
            int goal = isBook(b) ? books[b].leads(wide(address)) : -1;
            due("find(" + b + ", " + address + ")", leader.find(b, address), goal);
            due("longest(" + b + ", " + address + ")", leader.longest(b, address), place);
        }
    }

    private void least() {
        int b = book();
        int to = book();
        boolean right = isBook(b) && isBook(to);
        Reference.Book want = right ? Reference.least(Reference.guide(books[b])) : null;
        due("least(" + b + ", " + to + ")", leader.least(b, to), right ? want.size() : -1);
        if (right) {
            become(to, want);
            dump(to);
        }
    }

    private void set() {
        int b = book();
        for (int i = 0; i < 6; i++) {
            int n = random.nextInt(20) == 0 ? wrongNumber(33) : length();
            int start = n < 0 || n > 32 || random.nextInt(20) == 0 ? address() : first(address(), n);
            boolean right = isBook(b) && isBeginning(start, n);
            int want = right ? Reference.set(Reference.guide(books[b]), wide(start), n) : -1;
            due("set(" + b + ", " + start + ", " + n + ")", leader.set(b, start, n), want);
        }
    }

    private void spans() {
        int b = book();
        List<long[]> spans = isBook(b) ? Reference.spans(Reference.guide(books[b])) : new ArrayList<>();
        due("spans(" + b + ")", leader.spans(b), isBook(b) ? spans.size() : -1);
        int from = random.nextInt(spans.size() + 1);
        for (int i = from - 1; i <= spans.size() && i < from + 8; i++) {
            for (int what = -1; what <= 3; what++) {
                boolean right = i >= 0 && i < spans.size() && what >= 0 && what < 3;
                long want = right ? spans.get(i)[what] : -1;
                due("span(" + b + ", " + i + ", " + what + ")", leader.span(b, i, what), want);
            }
        }
    }

    private void share() {
        int b = book();
        for (int goal = -1; goal <= 17; goal++) {
            boolean right = isBook(b) && goal >= 0 && goal <= 16;
            long want = right ? Reference.share(books[b], goal) : -1;
            due("share(" + b + ", " + goal + ")", leader.share(b, goal), want);
        }
    }

    private void differ() {
        int a = book();
        int b = book();
        boolean right = isBook(a) && isBook(b);
        long[] want = right ? Reference.differ(books[a], books[b]) : new long[] {-1, -1};
        due("same(" + a + ", " + b + ")", leader.same(a, b), !right ? -1 : want[1] == 0 ? 1 : 0);
        String call = "differ(" + a + ", " + b + ", ";
        due(call + "0)", leader.differ(a, b, 0), want[0]);
        due(call + "1)", leader.differ(a, b, 1), want[1]);
        due(call + "2)", leader.differ(a, b, 2), -1);
        due(call + "-1)", leader.differ(a, b, -1), -1);
    }

    private void combine() {
        int how = random.nextInt(20) == 0 ? wrongNumber(3) : random.nextInt(3);
        int a = book();
        int b = book();
        int to = book();
        boolean right = isBook(a) && isBook(b) && isBook(to) && how >= 0 && how < 3;
        Reference.Book want = right ? Reference.least(Reference.combined(how, books[a], books[b])) : null;
        int answer = !right ? -1 : want.size() > 64 ? -2 : want.size();
        due("combine(" + how + ", " + a + ", " + b + ", " + to + ")", leader.combine(how, a, b, to), answer);
        if (answer >= 0) {
            become(to, want);
        }
        if (right) {
            dump(to);
        }
    }

    private void cover() {
        int f = address();
        int t = random.nextInt(3) == 0 ? f + random.nextInt(100) : address();
        boolean right = wide(f) <= wide(t);
        if (right) {
            cover = Reference.cover(wide(f), wide(t));
        }
        due("cover(" + f + ", " + t + ")", leader.cover(f, t), right ? cover.size() : -1);
        for (int i = -1; i <= cover.size(); i++) {
            Reference.Line piece = i < 0 || i >= cover.size() ? null : cover.get(i);
            due("piece(" + i + ", 0)", leader.piece(i, 0), piece == null ? -1 : piece.address());
            due("piece(" + i + ", 1)", leader.piece(i, 1), piece == null ? -1 : piece.n());
            due("piece(" + i + ", 2)", leader.piece(i, 2), -1);
        }
    }

    private void way() {
        int a = book();
        int b = book();
        boolean right = isBook(a) && isBook(b);
        if (right) {
            way = Reference.way(books[a], books[b]);
            wayStart = new Reference.Book();
            wayStart.putAll(books[a]);
        }
        due("way(" + a + ", " + b + ")", leader.way(a, b), right ? way.size() : -1);
        int size = way == null ? 0 : way.size();
        for (int i = -1; i <= size; i++) {
            Reference.Step step = i < 0 || i >= size ? null : way.get(i);
            due("step(" + i + ", 0)", leader.step(i, 0), step == null ? -1 : step.put() ? 1 : 0);
            due("step(" + i + ", 1)", leader.step(i, 1), step == null ? -1 : step.line().address());
            due("step(" + i + ", 2)", leader.step(i, 2), step == null ? -1 : step.line().n());
            due("step(" + i + ", 3)", leader.step(i, 3), step == null ? -1 : step.line().goal());
            due("step(" + i + ", 4)", leader.step(i, 4), -1);
        }
    }

    private void led() {
        int size = way == null ? 0 : way.size();
        for (int i = 0; i < 12; i++) {
            int k = random.nextInt(12) == 0 ? wrongNumber(size + 1) : random.nextInt(size + 1);
            int address = address();
            boolean right = way != null && k >= 0 && k <= size;
            int want = right ? Reference.led(wayStart, way, k, wide(address)) : -1;
            due("led(" + k + ", " + address + ")", leader.led(k, address), want);
        }
    }

    private void nodes() {
        int b = book();
        boolean right = isBook(b);
        long[] most = right ? Reference.mostSteps(books[b]) : new long[] {-1, -1};
        due("nodes(" + b + ", 0)", leader.nodes(b, 0), right ? Reference.pressed(books[b]) : -1);
        due("nodes(" + b + ", 1)", leader.nodes(b, 1), right ? Reference.strides(books[b]).size() : -1);
        due("nodes(" + b + ", 2)", leader.nodes(b, 2), most[0]);
        due("nodes(" + b + ", 3)", leader.nodes(b, 3), most[1]);
        due("nodes(" + b + ", 4)", leader.nodes(b, 4), -1);
        due("nodes(" + b + ", -1)", leader.nodes(b, -1), -1);
    }

    private void steps() {
        int b = book();
        for (int i = 0; i < 5; i++) {
            int address = address();
            int want = isBook(b) ? Reference.steps(Reference.strides(books[b]), wide(address)) : -1;
            due("steps(" + b + ", " + address + ")", leader.steps(b, address), want);
        }
    }
}
