import java.util.ArrayList;
import java.util.Comparator;
import java.util.HashSet;
import java.util.List;
import java.util.Set;
import java.util.TreeMap;
import java.util.TreeSet;

/** The document's words done as they stand, without a thought of speed, to be compared with. */
final class Reference {
    static final int NOWHERE = 16;
    static final long END = 1L << 32;

    record Line(long address, int n, int goal) {
        boolean holds(long other) {
            return cut(other, n) == address;
        }

        Line asGoal(int other) {
            return new Line(address, n, other);
        }
    }

    record Step(boolean put, Line line) {
    }

    /** LINES by BEGINNING, in their order. */
    static final class Book extends TreeMap<Long, Line> {
        private static final long serialVersionUID = 1L;

        void put(Line line) {
            put(key(line.address, line.n), line);
        }

        boolean has(long address, int n) {
            return containsKey(key(address, n));
        }

        Line at(long address, int n) {
            return get(key(address, n));
        }

        Line drop(long address, int n) {
            return remove(key(address, n));
        }

        private static long key(long address, int n) {
            return address * 64 + n;
        }

        List<Line> lines() {
            return new ArrayList<>(values());
        }

        Line longest(long address) {
            Line best = null;
            for (Line line : values()) {
                if (line.holds(address) && (best == null || line.n > best.n)) {
                    best = line;
                }
            }
            return best;
        }

        int leads(long address) {
            Line line = longest(address);
            return line == null ? NOWHERE : line.goal;
        }
    }

    private Reference() {
    }

    static long size(int n) {
        return END >> n;
    }

    static long cut(long address, int n) {
        return address / size(n) * size(n);
    }

    static TreeSet<Long> edges(Book book) {
        TreeSet<Long> edges = new TreeSet<>();
        edges.add(0L);
        for (Line line : book.values()) {
            edges.add(line.address);
            edges.add(line.address + size(line.n));
        }
        edges.remove(END);
        return edges;
    }

    /** From which ADDRESS on to which GOAL; neighbours may have one GOAL. */
    static TreeMap<Long, Integer> guide(Book book) {
        TreeMap<Long, Integer> guide = new TreeMap<>();
        for (long edge : edges(book)) {
            guide.put(edge, book.leads(edge));
        }
        return guide;
    }

    static TreeMap<Long, Integer> combined(int how, Book a, Book b) {
        TreeSet<Long> edges = edges(a);
        edges.addAll(edges(b));
        TreeMap<Long, Integer> guide = new TreeMap<>();
        for (long edge : edges) {
            int x = a.leads(edge);
            int y = b.leads(edge);
            int goal;
            if (how == 0) {
                goal = x != NOWHERE ? x : y;
            } else if (how == 1) {
                goal = x == y ? x : NOWHERE;
            } else {
                goal = y == NOWHERE ? x : NOWHERE;
            }
            guide.put(edge, goal);
        }
        return guide;
    }

    static int set(TreeMap<Long, Integer> guide, long address, int n) {
        int goals = 1 << guide.floorEntry(address).getValue();
        for (int goal : guide.subMap(address, address + size(n)).values()) {
            goals |= 1 << goal;
        }
        if (Integer.bitCount(goals) == 1) {
            return goals;
        }
        int a = set(guide, address, n + 1);
        int b = set(guide, address + size(n + 1), n + 1);
        return (a & b) != 0 ? a & b : a | b;
    }

    static Book least(TreeMap<Long, Integer> guide) {
        Book result = new Book();
        least(guide, 0, 0, NOWHERE, result);
        return result;
    }

    private static void least(TreeMap<Long, Integer> guide, long address, int n, int comes, Book result) {
        int set = set(guide, address, n);
        int goes = comes;
        if ((set >> comes & 1) == 0) {
            goes = 0;
            while ((set >> goes & 1) == 0) {
                goes++;
            }
            result.put(new Line(address, n, goes));
        }
        Set<Integer> goals = new HashSet<>(guide.subMap(address, address + size(n)).values());
        goals.add(guide.floorEntry(address).getValue());
        if (goals.size() > 1) {
            least(guide, address, n + 1, goes, result);
            least(guide, address + size(n + 1), n + 1, goes, result);
        }
    }

    /** Rows of first, last, GOAL. */
    static List<long[]> spans(TreeMap<Long, Integer> guide) {
        List<long[]> spans = new ArrayList<>();
        for (var entry : guide.entrySet()) {
            long[] previous = spans.isEmpty() ? null : spans.get(spans.size() - 1);
            if (previous == null || previous[2] != entry.getValue()) {
                if (previous != null) {
                    previous[1] = entry.getKey() - 1;
                }
                spans.add(new long[] {entry.getKey(), END - 1, entry.getValue()});
            }
        }
        return spans;
    }

    static long share(Book book, int goal) {
        long sum = 0;
        for (long[] span : spans(guide(book))) {
            sum += span[2] == goal ? span[1] - span[0] + 1 : 0;
        }
        return sum;
    }

    /** The least ADDRESS (or -1), and how many. */
    static long[] differ(Book a, Book b) {
        TreeSet<Long> edges = edges(a);
        edges.addAll(edges(b));
        long[] result = {-1, 0};
        for (long edge : edges) {
            if (a.leads(edge) != b.leads(edge)) {
                result[0] = result[1] == 0 ? edge : result[0];
                Long next = edges.higher(edge);
                result[1] += (next == null ? END : next) - edge;
            }
        }
        return result;
    }

    /** The BEGINNINGS, as LINES to 0. */
    static List<Line> cover(long from, long to) {
        List<Line> pieces = new ArrayList<>();
        cover(from, to, 0, 0, pieces);
        return pieces;
    }

    private static void cover(long from, long to, long address, int n, List<Line> pieces) {
        long last = address + size(n) - 1;
        if (from <= address && last <= to) {
            pieces.add(new Line(address, n, 0));
        } else if (from <= last && address <= to) {
            cover(from, to, address, n + 1, pieces);
            cover(from, to, address + size(n + 1), n + 1, pieces);
        }
    }

    static List<Step> way(Book a, Book b) {
        List<Line> puts = b.lines();
        puts.removeIf(line -> line.equals(a.at(line.address, line.n)));
        puts.sort(Comparator.comparingInt((Line line) -> -line.n).thenComparingLong(Line::address));
        List<Line> drops = a.lines();
        drops.removeIf(line -> b.has(line.address, line.n));
        drops.sort(Comparator.comparingInt(Line::n).thenComparingLong(Line::address));
        List<Step> steps = new ArrayList<>();
        puts.forEach(line -> steps.add(new Step(true, line)));
        drops.forEach(line -> steps.add(new Step(false, line)));
        return steps;
    }

    static int led(Book start, List<Step> way, int k, long address) {
        Book book = new Book();
        book.putAll(start);
        for (Step step : way.subList(0, k)) {
            if (step.put) {
                book.put(step.line);
            } else {
                book.drop(step.line.address, step.line.n);
            }
        }
        return book.leads(address);
    }

    static int pressed(Book book) {
        Set<Line> nodes = new HashSet<>();
        nodes.add(new Line(0, 0, 0));
        for (Line line : book.values()) {
            nodes.add(line.asGoal(0));
            for (int n = 0; n < line.n; n++) {
                long p = cut(line.address, n);
                if (hasBelow(book, p, n + 1) && hasBelow(book, p + size(n + 1), n + 1)) {
                    nodes.add(new Line(p, n, 0));
                }
            }
        }
        return nodes.size();
    }

    private static boolean hasBelow(Book book, long address, int n) {
        for (Line line : book.values()) {
            if (line.n >= n && cut(line.address, n) == address) {
                return true;
            }
        }
        return false;
    }

    static Set<Line> strides(Book book) {
        Set<Line> nodes = new HashSet<>();
        nodes.add(new Line(0, 0, 0));
        for (Line line : book.values()) {
            for (int n = 0; n < line.n; n += 6) {
                nodes.add(new Line(cut(line.address, n), n, 0));
            }
        }
        return nodes;
    }

    static int steps(Set<Line> strides, long address) {
        int sum = 0;
        for (Line node : strides) {
            sum += node.holds(address) ? 1 : 0;
        }
        return sum;
    }

    /** The most STEPS, and the least ADDRESS that takes them. */
    static long[] mostSteps(Book book) {
        Set<Line> strides = strides(book);
        TreeSet<Long> edges = new TreeSet<>();
        for (Line node : strides) {
            edges.add(node.address);
        }
        long[] result = {0, 0};
        for (long edge : edges) {
            int steps = steps(strides, edge);
            if (steps > result[0]) {
                result[0] = steps;
                result[1] = edge;
            }
        }
        return result;
    }
}
