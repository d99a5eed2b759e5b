/**
 * Six books of beginnings: where an address goes is told by the longest line that it begins with.
 *
 * <p>Every row that a call works on is made with the object and used again, so that no call makes
 * anything that stays behind it.
 */
public final class PrefixLeader {
    public static final int NONE = -1;
    public static final int NOWHERE = 16;

    private static final int BOOKS = 6;
    private static final int MOST_LINES = 64;
    private static final int TWO_BOOKS = 128;
    private static final int ALL_BITS = 32;
    private static final int LENGTHS = 33;
    private static final int STRIDE = 6;
    private static final int LAST_STRIDE = 30;
    private static final long ADDRESSES = 4294967296L;
    private static final int JOINED = 0;
    private static final int MET = 1;
    private static final int LESS = 2;
    private static final int TOO_MANY = -2;

    private final Lines[] books;
    private final Lines together;
    private final Lines fewest;
    private final Tree tree;
    private final Spans spansOfOne;
    private final Spans spansOfOther;
    private final Difference difference;
    private final Cover latestCover;
    private final Way latestWay;

    public PrefixLeader() {
        books = new Lines[BOOKS];
        for (int b = 0; b < BOOKS; b++) {
            books[b] = new Lines(MOST_LINES);
        }
        together = new Lines(TWO_BOOKS);
        // One LINE more than a BOOK has shows that there are too many.
        fewest = new Lines(MOST_LINES + 1);
        tree = new Tree();
        spansOfOne = new Spans();
        spansOfOther = new Spans();
        difference = new Difference();
        latestCover = new Cover();
        latestWay = new Way();
    }

    public int put(int b, int address, int n, int goal) {
        if (!isBook(b) || !isBeginning(address, n) || !isGoal(goal)) {
            return NONE;
        }
        Lines book = books[b];
        int place = book.placeOf(address, n);
        if (book.isAt(place, address, n)) {
            book.goal[place] = goal;
            return 1;
        }
        return book.insert(place, address, n, goal) ? 0 : NONE;
    }

    public boolean drop(int b, int address, int n) {
        if (!isBook(b)) {
            return false;
        }
        Lines book = books[b];
        int place = book.placeOf(address, n);
        if (!book.isAt(place, address, n)) {
            return false;
        }
        book.removeAt(place);
        return true;
    }

    public int copy(int b, int to) {
        if (!isBook(b) || !isBook(to)) {
            return NONE;
        }
        books[to].become(books[b]);
        return books[to].size;
    }

    public int count(int b) {
        return isBook(b) ? books[b].size : NONE;
    }

    public long line(int b, int i, int what) {
        if (!isBook(b) || i < 0 || i >= books[b].size) {
            return NONE;
        }
        switch (what) {
            case 0:
                return books[b].first(i);
            case 1:
                return books[b].bits[i];
            case 2:
                return books[b].goal[i];
            default:
                return NONE;
        }
    }

    public int find(int b, int address) {
        return isBook(b) ? books[b].goalAmong(books[b].size, address) : NONE;
    }

    public int longest(int b, int address) {
        return isBook(b) ? books[b].lastHolder(books[b].size, address) : NONE;
    }

    public int least(int b, int to) {
        if (!isBook(b) || !isBook(to)) {
            return NONE;
        }
        return becomeLeast(books[b], books[to]);
    }

    public int set(int b, int address, int n) {
        if (!isBook(b) || !isBeginning(address, n)) {
            return NONE;
        }
        Lines book = books[b];
        int from = book.placeOf(address, n);
        int to = book.endOf(from, address, n);
        tree.plant(book, from, to, address, n, book.goalAmong(from, address));
        return tree.setOfTop();
    }

    public int spans(int b) {
        if (!isBook(b)) {
            return NONE;
        }
        spansOfOne.measure(books[b]);
        return spansOfOne.size;
    }

    public long span(int b, int i, int what) {
        if (!isBook(b)) {
            return NONE;
        }
        spansOfOne.measure(books[b]);
        return spansOfOne.tell(i, what);
    }

    public long share(int b, int goal) {
        if (!isBook(b) || !isGoal(goal)) {
            return NONE;
        }
        spansOfOne.measure(books[b]);
        return spansOfOne.addressesTo(goal);
    }

    public int same(int a, int b) {
        if (!isBook(a) || !isBook(b)) {
            return NONE;
        }
        measureDifference(a, b);
        return difference.amount == 0 ? 1 : 0;
    }

    public long differ(int a, int b, int what) {
        if (!isBook(a) || !isBook(b) || what < 0 || what > 1) {
            return NONE;
        }
        measureDifference(a, b);
        return what == 0 ? difference.start : difference.amount;
    }

    public int combine(int how, int a, int b, int to) {
        if (how < JOINED || how > LESS || !isBook(a) || !isBook(b) || !isBook(to)) {
            return NONE;
        }
        together.merge(books[a], books[b], how);
        return becomeLeast(together, books[to]);
    }

    public int cover(int f, int t) {
        if (wide(t) < wide(f)) {
            return NONE;
        }
        latestCover.make(wide(f), wide(t));
        return latestCover.size;
    }

    public long piece(int i, int what) {
        return latestCover.tell(i, what);
    }

    public int way(int a, int b) {
        if (!isBook(a) || !isBook(b)) {
            return NONE;
        }
        latestWay.lay(books[a], books[b]);
        return latestWay.size;
    }

    public long step(int i, int what) {
        return latestWay.tell(i, what);
    }

    public int led(int k, int address) {
        return latestWay.goalBehind(k, address);
    }

    public long nodes(int b, int what) {
        if (!isBook(b)) {
            return NONE;
        }
        switch (what) {
            case 0:
                // The tree that THE SETS are told by has just the nodes of THE PRESSED TREE.
                tree.plantWhole(books[b]);
                return tree.size;
            case 1:
                return Strides.nodesOf(books[b]);
            case 2:
                return Strides.stepsDownTo(Strides.deepest(books[b]));
            case 3:
                return Strides.firstDeepest(books[b]);
            default:
                return NONE;
        }
    }

    public int steps(int b, int address) {
        return isBook(b) ? Strides.stepsOf(books[b], address) : NONE;
    }

    private int becomeLeast(Lines source, Lines target) {
        tree.plantWhole(source);
        tree.writeLeast(fewest);
        if (fewest.size > MOST_LINES) {
            return TOO_MANY;
        }
        target.become(fewest);
        return target.size;
    }

    private void measureDifference(int a, int b) {
        spansOfOne.measure(books[a]);
        spansOfOther.measure(books[b]);
        difference.measure(spansOfOne, spansOfOther);
    }

    private static boolean isBook(int b) {
        return b >= 0 && b < BOOKS;
    }

    private static boolean isGoal(int goal) {
        return goal >= 0 && goal <= NOWHERE;
    }

    private static boolean isBeginning(int address, int n) {
        return n >= 0 && n <= ALL_BITS && (address & ~mask(n)) == 0;
    }

    private static boolean begins(int address, int with, int n) {
        return (address & mask(n)) == with;
    }

    private static int mask(int n) {
        // Java's shift by 32 is one by 0, so n = 0 stands apart.
        return n <= 0 ? 0 : -1 << (ALL_BITS - Math.min(n, ALL_BITS));
    }

    private static int bitAt(int place) {
        return Integer.MIN_VALUE >>> place;
    }

    private static long wide(int address) {
        return address & (ADDRESSES - 1);
    }

    /** A row of LINES; but for those of a WAY in their order: by ADDRESS, of like ones by n. */
    private static final class Lines {
        final int[] address;
        final int[] bits;
        final int[] goal;
        final int room;
        int size;

        Lines(int room) {
            this.room = Math.max(room, 0);
            address = new int[this.room];
            bits = new int[this.room];
            goal = new int[this.room];
        }

        long first(int i) {
            return wide(address[i]);
        }

        long last(int i) {
            return wide(address[i] | ~mask(bits[i]));
        }

        boolean isAt(int i, int address, int bits) {
            return i >= 0 && i < size && this.address[i] == address && this.bits[i] == bits;
        }

        boolean hasBeginning(int address, int bits) {
            return isAt(placeOf(address, bits), address, bits);
        }

        boolean hasLine(int address, int bits, int goal) {
            int place = placeOf(address, bits);
            return isAt(place, address, bits) && this.goal[place] == goal;
        }

        /** How many LINES stand ahead of a BEGINNING. */
        int placeOf(int address, int bits) {
            for (int i = 0; i < size; i++) {
                if (!isAhead(i, address, bits)) {
                    return i;
                }
            }
            return size;
        }

        boolean isAhead(int i, int address, int bits) {
            if (this.address[i] == address) {
                return this.bits[i] < bits;
            }
            return wide(this.address[i]) < wide(address);
        }

        /** The place behind the LINES from a place on that begin with a BEGINNING. */
        int endOf(int from, int address, int bits) {
            for (int i = Math.max(from, 0); i < size; i++) {
                if (!begins(this.address[i], address, bits)) {
                    return i;
                }
            }
            return size;
        }

        /** The LINE with the most bits among the first ones that an ADDRESS begins with. */
        int lastHolder(int among, int address) {
            // Those that hold one ADDRESS lie in one another, so the last has the most bits.
            for (int i = Math.min(among, size) - 1; i >= 0; i--) {
                if (begins(address, this.address[i], bits[i])) {
                    return i;
                }
            }
            return NONE;
        }

        int goalAmong(int among, int address) {
            int holder = lastHolder(among, address);
            return holder == NONE ? NOWHERE : goal[holder];
        }

        void clear() {
            size = 0;
        }

        /** Beyond the room nothing is added. */
        void append(int address, int bits, int goal) {
            if (size < room) {
                this.address[size] = address;
                this.bits[size] = bits;
                this.goal[size] = goal;
                size++;
            }
        }

        boolean insert(int place, int address, int bits, int goal) {
            if (size >= room || place < 0 || place > size) {
                return false;
            }
            for (int i = size; i > place; i--) {
                write(i, this.address[i - 1], this.bits[i - 1], this.goal[i - 1]);
            }
            write(place, address, bits, goal);
            size++;
            return true;
        }

        void removeAt(int place) {
            if (place < 0 || place >= size) {
                return;
            }
            size--;
            for (int i = place; i < size; i++) {
                write(i, address[i + 1], bits[i + 1], goal[i + 1]);
            }
        }

        void become(Lines other) {
            int length = Math.min(other.size, room);
            for (int i = 0; i < length; i++) {
                write(i, other.address[i], other.bits[i], other.goal[i]);
            }
            size = length;
        }

        private void write(int i, int address, int bits, int goal) {
            this.address[i] = address;
            this.bits[i] = bits;
            this.goal[i] = goal;
        }

        /** Becomes LINES that LEAD as a and b JOINED, MET or LESS: one for each BEGINNING of theirs. */
        void merge(Lines a, Lines b, int how) {
            clear();
            int i = 0;
            int j = 0;
            for (int turn = 0; turn < TWO_BOOKS && (i < a.size || j < b.size); turn++) {
                boolean ofA = j >= b.size || i < a.size && !b.isAhead(j, a.address[i], a.bits[i]);
                int start = ofA ? a.address[i] : b.address[j];
                int length = ofA ? a.bits[i] : b.bits[j];
                if (a.isAt(i, start, length)) {
                    i++;
                }
                if (b.isAt(j, start, length)) {
                    j++;
                }
                append(start, length, mixed(how, a.goalAmong(i, start), b.goalAmong(j, start)));
            }
        }

        private static int mixed(int how, int goalOfA, int goalOfB) {
            if (how == JOINED) {
                return goalOfA != NOWHERE ? goalOfA : goalOfB;
            }
            if (how == MET) {
                return goalOfA == goalOfB ? goalOfA : NOWHERE;
            }
            return goalOfB == NOWHERE ? goalOfA : NOWHERE;
        }

        /** With how many bits all LINES from one to another begin alike. */
        int commonBits(int from, int to) {
            // Of LINES in order the first has the fewest bits of those that lie in one another.
            int apart = address[from] ^ address[to];
            int n = 0;
            while (n < bits[from] && (apart & bitAt(n)) == 0) {
                n++;
            }
            return n;
        }

        /** The first of LINES of more bits whose next bit is 1. */
        int firstHigh(int from, int to, int bitsBefore) {
            for (int i = from; i < to; i++) {
                if ((address[i] & bitAt(bitsBefore)) != 0) {
                    return i;
                }
            }
            return to;
        }
    }

    /**
     * THE PRESSED TREE of LINES, with THE SET of each node.
     *
     * <p>Between a node and its child all that hangs aside goes where the node's own addresses go,
     * so THE SETS there need not be kept: see setOfSide.
     */
    private static final class Tree {
        private static final int MOST_NODES = 2 * TWO_BOOKS;

        private final int[] address = new int[MOST_NODES];
        private final int[] bits = new int[MOST_NODES];
        private final int[] goal = new int[MOST_NODES];
        private final int[] low = new int[MOST_NODES];
        private final int[] high = new int[MOST_NODES];
        private final int[] sets = new int[MOST_NODES];
        private int size;

        void plantWhole(Lines lines) {
            size = 0;
            grow(lines, 0, lines.size, 0, 0, NOWHERE);
        }

        /** The tree below a BEGINNING, to which a GOAL comes, of the LINES that begin with it. */
        void plant(Lines lines, int from, int to, int top, int topBits, int comes) {
            size = 0;
            grow(lines, from, to, top, topBits, comes);
        }

        int setOfTop() {
            return size > 0 ? sets[0] : NONE;
        }

        private int grow(Lines lines, int from, int to, int start, int length, int comes) {
            if (size >= MOST_NODES || length > ALL_BITS) {
                return NONE;
            }
            int node = size;
            size++;
            boolean isLine = from < to && lines.isAt(from, start, length);
            int below = isLine ? from + 1 : from;
            address[node] = start;
            bits[node] = length;
            goal[node] = isLine ? lines.goal[from] : comes;
            int half = lines.firstHigh(below, to, length);
            low[node] = growSide(lines, below, half, node);
            high[node] = growSide(lines, half, to, node);
            sets[node] = both(setOfSide(node, low[node]), setOfSide(node, high[node]));
            return node;
        }

        private int growSide(Lines lines, int from, int to, int parent) {
            if (from < 0 || from >= to || to > lines.size) {
                return NONE;
            }
            int length = lines.commonBits(from, to - 1);
            // More bits at each level: there are no more levels than lengths.
            if (length <= bits[parent]) {
                return NONE;
            }
            return grow(lines, from, to, lines.address[from] & mask(length), length, goal[parent]);
        }

        /** THE SET of the BEGINNING one bit below a node, on the side of a child (or of none). */
        private int setOfSide(int node, int child) {
            int own = 1 << goal[node];
            if (child < 0 || child >= size) {
                return own;
            }
            int levels = bits[child] - bits[node] - 1;
            if (levels <= 0) {
                return sets[child];
            }
            // The second level up has in common with what hangs beside it just that.
            return levels == 1 ? both(sets[child], own) : own;
        }

        private static int both(int setA, int setB) {
            return (setA & setB) != 0 ? setA & setB : setA | setB;
        }

        void writeLeast(Lines target) {
            target.clear();
            writeNode(target, 0, NOWHERE, 0);
        }

        private void writeNode(Lines target, int node, int comes, int depth) {
            if (node < 0 || node >= size || depth > ALL_BITS) {
                return;
            }
            int goes = writeIfNeeded(target, address[node], bits[node], sets[node], comes);
            if (low[node] == NONE && high[node] == NONE) {
                return;
            }
            writeSide(target, node, low[node], address[node], goes, depth);
            writeSide(target, node, high[node], address[node] | bitAt(bits[node]), goes, depth);
        }

        private void writeSide(Lines target, int node, int child, int side, int comes, int depth) {
            int length = bits[node] + 1;
            if (child >= 0 && child < size && bits[child] == length) {
                writeNode(target, child, comes, depth + 1);
                return;
            }
            int goes = writeIfNeeded(target, side, length, setOfSide(node, child), comes);
            if (child >= 0 && child < size) {
                writeWithTwin(target, node, child, goes, depth);
            }
        }

        /** The child, and the BEGINNING that differs from it in the last bit alone, in their order. */
        private void writeWithTwin(Lines target, int node, int child, int comes, int depth) {
            int length = bits[child];
            int lastBit = bitAt(length - 1);
            int twin = address[child] ^ lastBit;
            int setOfTwin = 1 << goal[node];
            if ((twin & lastBit) == 0) {
                writeIfNeeded(target, twin, length, setOfTwin, comes);
                writeNode(target, child, comes, depth + 1);
            } else {
                writeNode(target, child, comes, depth + 1);
                writeIfNeeded(target, twin, length, setOfTwin, comes);
            }
        }

        /** Answers the GOAL that comes to what is below. */
        private static int writeIfNeeded(Lines target, int start, int length, int set, int comes) {
            if ((set & 1 << comes) != 0) {
                return comes;
            }
            int goes = leastOf(set);
            target.append(start, length, goes);
            return goes;
        }

        private static int leastOf(int set) {
            int least = 0;
            while (least < NOWHERE && (set & 1 << least) == 0) {
                least++;
            }
            return least;
        }
    }

    /** The SPANS of a BOOK. */
    private static final class Spans {
        private static final int MOST_SPANS = 2 * MOST_LINES + 1;

        private final long[] first = new long[MOST_SPANS];
        private final int[] goal = new int[MOST_SPANS];
        private int size;
        private long reached;
        private final int[] open = new int[LENGTHS];
        private int opened;

        void measure(Lines lines) {
            size = 0;
            reached = 0;
            opened = 0;
            for (int i = 0; i < lines.size; i++) {
                reachStart(lines, lines.first(i));
                if (opened < LENGTHS) {
                    open[opened] = i;
                    opened++;
                }
            }
            reachStart(lines, ADDRESSES);
        }

        /** Goes on to where a LINE starts, and closes those that end ahead of it. */
        private void reachStart(Lines lines, long start) {
            while (opened > 0 && lines.last(open[opened - 1]) < start) {
                opened--;
                reach(lines.last(open[opened]) + 1, lines.goal[open[opened]]);
            }
            reach(start, opened > 0 ? lines.goal[open[opened - 1]] : NOWHERE);
        }

        private void reach(long end, int to) {
            if (end <= reached) {
                return;
            }
            boolean goesOn = size > 0 && goal[size - 1] == to;
            if (!goesOn && size < MOST_SPANS) {
                first[size] = reached;
                goal[size] = to;
                size++;
            }
            reached = end;
        }

        long last(int i) {
            return i + 1 < size ? first[i + 1] - 1 : ADDRESSES - 1;
        }

        long tell(int i, int what) {
            if (i < 0 || i >= size) {
                return NONE;
            }
            switch (what) {
                case 0:
                    return first[i];
                case 1:
                    return last(i);
                case 2:
                    return goal[i];
                default:
                    return NONE;
            }
        }

        long addressesTo(int to) {
            long sum = 0;
            for (int i = 0; i < size; i++) {
                if (goal[i] == to) {
                    sum += last(i) - first[i] + 1;
                }
            }
            return sum;
        }
    }

    /** Where two BOOKS LEAD apart. */
    private static final class Difference {
        private static final int TWO_BOOKS_SPANS = 2 * Spans.MOST_SPANS;

        private long start;
        private long amount;

        void measure(Spans a, Spans b) {
            start = NONE;
            amount = 0;
            long from = 0;
            int i = 0;
            int j = 0;
            for (int turn = 0; turn < TWO_BOOKS_SPANS && i < a.size && j < b.size; turn++) {
                long end = Math.min(a.last(i), b.last(j));
                if (a.goal[i] != b.goal[j]) {
                    start = amount == 0 ? from : start;
                    amount += end - from + 1;
                }
                from = end + 1;
                // The SPAN that ends here, or both: one at least goes on.
                boolean endOfA = a.last(i) == end;
                boolean endOfB = b.last(j) == end;
                i += endOfA ? 1 : 0;
                j += endOfB ? 1 : 0;
            }
        }
    }

    /** The latest COVER. */
    private static final class Cover {
        private static final int MOST_PIECES = 62;

        private final long[] address = new long[MOST_PIECES];
        private final int[] bits = new int[MOST_PIECES];
        private int size;

        void make(long from, long to) {
            size = 0;
            long start = from;
            while (start <= to && size < MOST_PIECES) {
                int length = fewestBits(start, to);
                address[size] = start;
                bits[size] = length;
                size++;
                start += addressesOf(length);
            }
        }

        private static int fewestBits(long start, long to) {
            for (int n = 0; n < ALL_BITS; n++) {
                long many = addressesOf(n);
                if ((start & many - 1) == 0 && start + many - 1 <= to) {
                    return n;
                }
            }
            return ALL_BITS;
        }

        private static long addressesOf(int n) {
            return ADDRESSES >> n;
        }

        long tell(int i, int what) {
            if (i < 0 || i >= size) {
                return NONE;
            }
            switch (what) {
                case 0:
                    return address[i];
                case 1:
                    return bits[i];
                default:
                    return NONE;
            }
        }
    }

    /** The latest WAY, with the LINES that it starts from as they were then. */
    private static final class Way {
        private static final int PUT = 1;
        private static final int DROPPED = 0;

        private final Lines start = new Lines(MOST_LINES);
        private final Lines puts = new Lines(MOST_LINES);
        private final Lines drops = new Lines(MOST_LINES);
        private final int[] goalByBits = new int[LENGTHS];
        private int size = NONE;

        void lay(Lines from, Lines to) {
            start.become(from);
            puts.clear();
            drops.clear();
            for (int n = ALL_BITS; n >= 0; n--) {
                appendPuts(from, to, n);
            }
            for (int n = 0; n <= ALL_BITS; n++) {
                appendDrops(from, to, n);
            }
            size = puts.size + drops.size;
        }

        private void appendPuts(Lines from, Lines to, int n) {
            for (int i = 0; i < to.size; i++) {
                if (to.bits[i] == n && !from.hasLine(to.address[i], n, to.goal[i])) {
                    puts.append(to.address[i], n, to.goal[i]);
                }
            }
        }

        private void appendDrops(Lines from, Lines to, int n) {
            for (int i = 0; i < from.size; i++) {
                if (from.bits[i] == n && !to.hasBeginning(from.address[i], n)) {
                    drops.append(from.address[i], n, from.goal[i]);
                }
            }
        }

        long tell(int i, int what) {
            if (i < 0 || i >= size) {
                return NONE;
            }
            boolean isPut = i < puts.size;
            Lines row = isPut ? puts : drops;
            int place = isPut ? i : i - puts.size;
            switch (what) {
                case 0:
                    return isPut ? PUT : DROPPED;
                case 1:
                    return row.first(place);
                case 2:
                    return row.bits[place];
                case 3:
                    return row.goal[place];
                default:
                    return NONE;
            }
        }

        int goalBehind(int k, int address) {
            if (k < 0 || k > size) {
                return NONE;
            }
            // Of each length an ADDRESS has one BEGINNING alone, so a place for each will do.
            for (int n = 0; n < LENGTHS; n++) {
                goalByBits[n] = NONE;
            }
            noteHolders(start, start.size, address, true);
            noteHolders(puts, Math.min(k, puts.size), address, true);
            noteHolders(drops, k - puts.size, address, false);
            for (int n = ALL_BITS; n >= 0; n--) {
                if (goalByBits[n] != NONE) {
                    return goalByBits[n];
                }
            }
            return NOWHERE;
        }

        private void noteHolders(Lines row, int many, int address, boolean stays) {
            for (int i = 0; i < many && i < row.size; i++) {
                if (begins(address, row.address[i], row.bits[i])) {
                    goalByBits[row.bits[i]] = stays ? row.goal[i] : NONE;
                }
            }
        }
    }

    /** THE STRIDES of LINES; no tree is made, for the order of the LINES brings like nodes together. */
    private static final class Strides {
        static int nodesOf(Lines lines) {
            int sum = 1;
            for (int depth = STRIDE; depth <= LAST_STRIDE; depth += STRIDE) {
                sum += nodesAt(lines, depth);
            }
            return sum;
        }

        private static int nodesAt(Lines lines, int depth) {
            int sum = 0;
            int latest = 0;
            for (int i = 0; i < lines.size; i++) {
                int start = lines.address[i] & mask(depth);
                if (lines.bits[i] > depth && (sum == 0 || start != latest)) {
                    sum++;
                    latest = start;
                }
            }
            return sum;
        }

        /** The bits of the deepest node. */
        static int deepest(Lines lines) {
            int depth = 0;
            for (int i = 0; i < lines.size; i++) {
                while (depth < LAST_STRIDE && lines.bits[i] > depth + STRIDE) {
                    depth += STRIDE;
                }
            }
            return depth;
        }

        static int stepsDownTo(int depth) {
            return depth / STRIDE + 1;
        }

        static long firstDeepest(Lines lines) {
            int depth = deepest(lines);
            for (int i = 0; i < lines.size; i++) {
                if (lines.bits[i] > depth) {
                    return wide(lines.address[i] & mask(depth));
                }
            }
            return 0;
        }

        static int stepsOf(Lines lines, int address) {
            // Ahead of each node stand all nodes above it, so the deepest one tells the STEPS.
            for (int depth = LAST_STRIDE; depth > 0; depth -= STRIDE) {
                if (hasNode(lines, address & mask(depth), depth)) {
                    return stepsDownTo(depth);
                }
            }
            return 1;
        }

        private static boolean hasNode(Lines lines, int start, int depth) {
            for (int i = 0; i < lines.size; i++) {
                if (lines.bits[i] > depth && begins(lines.address[i], start, depth)) {
                    return true;
                }
            }
            return false;
        }
    }
}
