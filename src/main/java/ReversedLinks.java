import java.util.Arrays;

/**
 * Cells whose fields hold cells, and a marking of them that keeps its way back on a short stack and, when that is
 * full, in turned fields. What each call promises stands in the project's document, DOC.md.
 *
 * Nearly all questions ask for the fields as they are when none is turned. So the fields are kept like that, and
 * which are turned, and what they hold meanwhile, is read off the way that the marking came down (see Marking).
 */
public final class ReversedLinks {
    public static final int NONE = -1, BAD = -2, STATE = -3, FULL = -4;
    public static final long NO = Long.MIN_VALUE;

    private static final int EMPTY = -5;
    private static final int FAULT = -10;
    private static final int NOTHING = -11, CAST = -12, PLACE = -13, SIZE = -14;

    private static final int CELLS = 24, FIELDS = 6, ROOTS = 4, TAGS = 10, LIMIT = 8;
    private static final int ATOM = 0, PAIR = 1, ROW = 2, BOX = 3, WEAK = 4, TABLE = 5, HALF = 6;
    private static final int[] UNDER = {-1, ATOM, ATOM, ATOM, BOX, ROW, PAIR};

    private static final int STEPS_AT_ONCE = 99, STEPS_AHEAD = 400, STEPS_SEEN = 40;
    // A marking takes a step for each field, at most two for each cell, one for each root and one to be over:
    // far fewer than this.
    private static final int STEPS_ENOUGH = 1000;

    private static final int SIGNS = 100, LAST_SIGN = 127, OPEN = 6;
    private static final int SEEN = 5, PLANNED = 10, BOOKED = 8, ROWS = 10, COLUMNS = 3;
    private static final int TAPES = 6, ITEMS = 60, LAST_SORT = 4, BOOLEANS = 4;

    private final State now = new State();
    private final State kept = new State();
    private boolean isKept = false;

    private final Graph trialGraph = new Graph();
    private final Marking trialMarking = new Marking();
    private final Links links = new Links();

    private final Text text = new Text();
    private final Tapes tapes = new Tapes();

    public ReversedLinks() {
    }

    // ---- cells

    public int cell(int layout, int tag, int n) {
        if (layout < ATOM || layout > HALF) {
            return NONE;
        }
        if (!isTag(tag) || fieldsOf(layout, n) < 0 || fieldsOf(layout, n) > FIELDS) {
            return BAD;
        }
        if (now.marking.isRunning) {
            return STATE;
        }
        if (now.graph.came >= CELLS) {
            return FULL;
        }
        now.marking.isClean = false;
        return now.graph.add(layout, tag, fieldsOf(layout, n));
    }

    public int of(int cell, int what) {
        Graph graph = now.graph;
        Marking marking = now.marking;
        if (!graph.isThere(cell)) {
            return NONE;
        }
        switch (what) {
            case 0:
                return graph.layoutOf(cell);
            case 1:
                return graph.tagOf(cell);
            case 2:
                return graph.sizeOf(cell);
            case 3:
                return asNumber(has(marking.marked, cell));
            case 4:
                return marking.countOf(cell);
            case 5:
                return asNumber(has(marking.later, cell));
            case 6:
                return asNumber(has(graph.pinned, cell));
            case 7:
                return graph.holders(cell);
            case 12:
                return bitsFor(graph.sizeOf(cell));
            default:
                return wayTo(cell, what);
        }
    }

    public int field(int cell, int i) {
        return now.graph.isField(cell, i) ? now.graph.heldBy(cell, i) : NONE;
    }

    public int raw(int cell, int i) {
        if (!now.graph.isField(cell, i)) {
            return NONE;
        }
        return now.marking.isTurned(cell, i) ? now.marking.backFrom(cell) : now.graph.heldBy(cell, i);
    }

    public int hold(int cell, int i, int other) {
        if (!now.graph.isField(cell, i) || !now.graph.isThereOrNothing(other)) {
            return NONE;
        }
        if (now.marking.isRunning) {
            return STATE;
        }
        int was = now.graph.heldBy(cell, i);
        now.graph.putInto(cell, i, orEmpty(other));
        now.marking.isClean = false;
        return was;
    }

    public int tag(int cell, int n) {
        if (!now.graph.isThere(cell)) {
            return NONE;
        }
        if (!isTag(n)) {
            return BAD;
        }
        if (now.marking.isRunning) {
            return STATE;
        }
        int was = now.graph.tagOf(cell);
        now.graph.retag(cell, n);
        now.marking.isClean = false;
        return was;
    }

    public int root(int root, int cell) {
        if (!isRoot(root) || !now.graph.isThereOrNothing(cell)) {
            return NONE;
        }
        if (now.marking.isRunning) {
            return STATE;
        }
        int was = now.graph.heldByRoot(root);
        now.graph.putIntoRoot(root, orEmpty(cell));
        now.marking.isClean = false;
        return was;
    }

    public int pin(int cell, boolean isPinned) {
        if (!now.graph.isThere(cell)) {
            return NONE;
        }
        if (now.marking.hasTurned(cell)) {
            return STATE;
        }
        boolean was = has(now.graph.pinned, cell);
        now.graph.pinned = isPinned ? now.graph.pinned | bit(cell) : now.graph.pinned & ~bit(cell);
        return asNumber(was);
    }

    // ---- texts

    public int feed(int sign) {
        if (sign < 0 || sign > LAST_SIGN) {
            return BAD;
        }
        return text.append(sign) ? text.length : FULL;
    }

    public int build(int root) {
        if (!isRoot(root)) {
            return NONE;
        }
        if (now.marking.isRunning) {
            return STATE;
        }
        trialGraph.copyFrom(now.graph);
        int fault = text.readInto(trialGraph, now.graph.there);
        text.length = 0;
        if (fault >= 0) {
            return FAULT - fault;
        }
        if (now.graph.came + text.made > CELLS) {
            return FULL;
        }
        trialGraph.putIntoRoot(root, text.outermost);
        now.graph.copyFrom(trialGraph);
        now.marking.isClean = false;
        return text.made;
    }

    // ---- marking

    public int begin(int limit) {
        if (!isLimit(limit)) {
            return BAD;
        }
        if (now.marking.isRunning) {
            return STATE;
        }
        now.marking.start(limit);
        return Integer.bitCount(now.graph.there);
    }

    public int step(int n) {
        if (n < 0 || n > STEPS_AT_ONCE) {
            return BAD;
        }
        return now.marking.isRunning ? now.marking.run(now.graph, n) : STATE;
    }

    public int leave() {
        if (!now.marking.isRunning) {
            return STATE;
        }
        int turned = now.marking.turnedNow();
        now.marking.breakOff();
        return turned;
    }

    public int sweep() {
        if (!now.marking.isClean) {
            return STATE;
        }
        int gone = now.graph.keepOnly(now.marking.marked);
        now.marking.marked = 0;
        now.marking.isClean = false;
        return gone;
    }

    public int told(int what) {
        switch (what) {
            case 8:
                return now.marking.marked;
            case 9:
                return now.marking.later;
            case 10:
                links.readFrom(now.graph);
                return links.reached();
            case 13:
                return now.graph.there;
            case 15:
            case 16:
            case 17:
            case 18:
                return now.graph.heldByRoot(what - 15);
            default:
                return ofMarking(what);
        }
    }

    public int on(int n, int what) {
        if (what < 0 || what > 4) {
            return NONE;
        }
        if (n < 0 || n > STEPS_AHEAD) {
            return BAD;
        }
        trialMarking.copyFrom(now.marking);
        trialMarking.run(now.graph, n);
        switch (what) {
            case 0:
                return trialMarking.at;
            case 1:
                return trialMarking.back();
            case 2:
                return trialMarking.marked;
            case 3:
                return trialMarking.turnedNow();
            default:
                return trialMarking.steps;
        }
    }

    public int need(int limit, int what) {
        if (what < 0 || what > 4) {
            return NONE;
        }
        if (!isLimit(limit)) {
            return BAD;
        }
        if (now.marking.isRunning) {
            return STATE;
        }
        trialMarking.start(limit);
        trialMarking.run(now.graph, STEPS_ENOUGH);
        return trialMarking.tally(what);
    }

    public int least(int what) {
        if (what < 0 || what > 1) {
            return NONE;
        }
        if (now.marking.isRunning) {
            return STATE;
        }
        for (int limit = 0; limit <= LIMIT; limit++) {
            trialMarking.start(limit);
            trialMarking.run(now.graph, STEPS_ENOUGH);
            if (trialMarking.tally(what == 0 ? 1 : 3) == 0) {
                return limit;
            }
        }
        return EMPTY;
    }

    // ---- seen, odds

    public int see(int cell, int n, boolean isMarked) {
        if (cell == -1) {
            return now.seen.clear();
        }
        if (!now.graph.isThere(cell)) {
            return NONE;
        }
        if (n < 0 || n > STEPS_SEEN) {
            return BAD;
        }
        return now.seen.size < SEEN ? now.seen.add(cell, n, asNumber(isMarked)) : FULL;
    }

    public int fits(int limit) {
        if (!isLimit(limit)) {
            return BAD;
        }
        if (now.marking.isRunning) {
            return STATE;
        }
        int fitting = 0;
        trialGraph.copyFrom(now.graph);
        for (int cell = 0; cell < CELLS; cell++) {
            trialGraph.putIntoRoot(0, cell);
            if (now.graph.isThere(cell) && isAsSeen(trialGraph, limit)) {
                fitting |= bit(cell);
            }
        }
        return fitting;
    }

    public int can(int cell, int limit, int what) {
        if (!now.graph.isThere(cell) || what < 0 || what > 1) {
            return NONE;
        }
        if (!isLimit(limit)) {
            return BAD;
        }
        if (now.marking.isRunning) {
            return STATE;
        }
        int many = 0;
        int least = EMPTY;
        trialGraph.copyFrom(now.graph);
        for (int tag = TAGS - 1; tag >= 0; tag--) {
            trialGraph.retag(cell, tag);
            if (isAsSeen(trialGraph, limit)) {
                many++;
                least = tag;
            }
        }
        return what == 0 ? many : least;
    }

    public long odds(int cell, int part) {
        Graph graph = now.graph;
        if (!graph.isThere(cell)) {
            return NO;
        }
        links.readFrom(graph);
        int fields = 0;
        int reached = 0;
        for (int from = 0; from < CELLS; from++) {
            for (int i = 0; i < graph.sizeOf(from); i++) {
                if (graph.leadsTo(from, i) != EMPTY) {
                    fields++;
                    reached += asNumber(has(links.reachedWithout(graph, from, i), cell));
                }
            }
        }
        return fraction(reached, fields, part);
    }

    public long mean(int part) {
        links.readFrom(now.graph);
        int sum = 0;
        for (int cell = 0; cell < CELLS; cell++) {
            sum += Math.max(links.farOf(cell), 0);
        }
        return fraction(sum, Integer.bitCount(links.reached()), part);
    }

    // ---- plans, books

    public int plan(int what, int n) {
        if (what == -1) {
            return now.plan.clear();
        }
        if (!isPlannable(what, n)) {
            return NONE;
        }
        return now.plan.size < PLANNED ? now.plan.add(what, n, 0) : FULL;
    }

    public int ends() {
        trialGraph.copyFrom(now.graph);
        for (int row = 0; row < now.plan.size; row++) {
            int n = now.plan.number(row, 1);
            switch (now.plan.number(row, 0)) {
                case 0:
                    trialGraph.putInto(n / 10, n % 10, EMPTY);
                    break;
                case 1:
                    trialGraph.putIntoRoot(n, EMPTY);
                    break;
                default:
                    trialGraph.retag(n, 0);
                    break;
            }
        }
        links.readFrom(trialGraph);
        return links.reached();
    }

    public int book(int cell, int i, int other) {
        if (cell == -1) {
            return now.book.clear();
        }
        if (!now.graph.isField(cell, i) || !now.graph.isThereOrNothing(other)) {
            return NONE;
        }
        return now.book.size < BOOKED ? now.book.add(cell, i, orEmpty(other)) : FULL;
    }

    public int looked() {
        for (int row = 0; row < now.book.size; row++) {
            int cell = now.book.number(row, 0);
            int i = now.book.number(row, 1);
            if (!now.graph.isField(cell, i) || now.graph.heldBy(cell, i) != now.book.number(row, 2)) {
                return row;
            }
        }
        return EMPTY;
    }

    // ---- judging, the image, tapes

    public int judge(int tape, int i) {
        if (!isTape(tape)) {
            return NONE;
        }
        int sort = tapes.sortOf(tape);
        if (sort != EMPTY && sort != BOOLEANS) {
            return CAST;
        }
        for (int cell = 0; cell < now.graph.came; cell++) {
            if (!tapes.isPlace(tape, i + cell)) {
                return 100 + cell;
            }
            if (tapes.itemAt(tape, i + cell) != asNumber(has(now.marking.marked, cell))) {
                return cell;
            }
        }
        return EMPTY;
    }

    public int image() {
        kept.copyFrom(now);
        isKept = true;
        return Integer.bitCount(now.graph.there);
    }

    public int undo() {
        if (!isKept) {
            return STATE;
        }
        now.copyFrom(kept);
        return Integer.bitCount(now.graph.there);
    }

    public int taken(int cell, int k) {
        if (k < ATOM || k > HALF) {
            return BAD;
        }
        if (!now.graph.isThere(cell)) {
            return NOTHING;
        }
        return isUnder(now.graph.layoutOf(cell), k) ? now.graph.layoutOf(cell) : CAST;
    }

    public int count(int what) {
        switch (what) {
            case 0:
                return now.graph.came;
            case 1:
                return now.seen.size;
            case 2:
                return now.plan.size;
            case 3:
                return now.book.size;
            case 4:
                return text.length;
            default:
                return BAD;
        }
    }

    public int tape(int tape, int sort, int n) {
        if (!isTape(tape)) {
            return NONE;
        }
        if (sort == -1) {
            tapes.lay(tape, EMPTY, 0);
            return 1;
        }
        if (sort < 0 || sort > LAST_SORT || n > ITEMS) {
            return BAD;
        }
        if (n < 0) {
            return SIZE;
        }
        tapes.lay(tape, sort, n);
        return 1;
    }

    public int item(int tape, int i, long v) {
        if (!isTape(tape)) {
            return NONE;
        }
        if (tapes.sortOf(tape) == EMPTY) {
            return NOTHING;
        }
        if (!tapes.isPlace(tape, i)) {
            return PLACE;
        }
        tapes.write(tape, i, v);
        return 1;
    }

    public long read(int tape, int i) {
        return tapes.isPlace(tape, i) ? tapes.itemAt(tape, i) : NO;
    }

    public int shift(int tape, int i, int other, int j, int n) {
        if (!isTape(tape) || !isTape(other)) {
            return NONE;
        }
        if (tapes.sortOf(tape) == EMPTY || tapes.sortOf(other) == EMPTY) {
            return NOTHING;
        }
        if (tapes.sortOf(tape) != tapes.sortOf(other)) {
            return CAST;
        }
        if (!tapes.isSpan(tape, i, n) || !tapes.isSpan(other, j, n)) {
            return PLACE;
        }
        tapes.move(tape, i, other, j, n);
        return n;
    }

    // ---- what several calls ask

    /** FAR, REACH, KEEPS and CUT of a cell, by the numbers that of() gives them. */
    private int wayTo(int cell, int what) {
        links.readFrom(now.graph);
        switch (what) {
            case 8:
                return links.farOf(cell);
            case 9:
                return links.spread(bit(cell), 0);
            case 10:
                return links.keptBy(cell);
            case 11:
                return links.cutOf(now.graph, cell);
            default:
                return NONE;
        }
    }

    /** The marking's own numbers, as told() numbers them. */
    private int ofMarking(int what) {
        Marking marking = now.marking;
        switch (what) {
            case 0:
                return asNumber(marking.isRunning);
            case 1:
                return marking.at;
            case 2:
                return marking.back();
            case 3:
            case 4:
            case 5:
            case 6:
            case 7:
                return marking.tally(what - 3);
            case 11:
                trialMarking.copyFrom(marking);
                return trialMarking.run(now.graph, STEPS_ENOUGH);
            case 12:
                return marking.depth - marking.turnedNow();
            case 14:
                return asNumber(marking.isClean);
            default:
                return NONE;
        }
    }

    /** Whether a marking of a graph by a limit marks what was seen, behind as many steps. */
    private boolean isAsSeen(Graph graph, int limit) {
        trialMarking.start(limit);
        for (int n = 0; n <= STEPS_SEEN; n++) {
            if (!isAsSeenBehind(n, trialMarking.marked)) {
                return false;
            }
            trialMarking.run(graph, 1);
        }
        return true;
    }

    private boolean isAsSeenBehind(int n, int marked) {
        for (int row = 0; row < now.seen.size; row++) {
            boolean isMarked = has(marked, now.seen.number(row, 0));
            if (now.seen.number(row, 1) == n && now.seen.number(row, 2) != asNumber(isMarked)) {
                return false;
            }
        }
        return true;
    }

    private boolean isPlannable(int what, int n) {
        switch (what) {
            case 0:
                return n >= 0 && now.graph.isField(n / 10, n % 10);
            case 1:
                return isRoot(n);
            case 2:
                return now.graph.isThere(n);
            default:
                return false;
        }
    }

    private static boolean isTag(int tag) {
        return tag >= 0 && tag < TAGS;
    }

    private static boolean isRoot(int root) {
        return root >= 0 && root < ROOTS;
    }

    private static boolean isLimit(int limit) {
        return limit >= 0 && limit <= LIMIT;
    }

    private static boolean isTape(int tape) {
        return tape >= 0 && tape < TAPES;
    }

    private static int asNumber(boolean isSo) {
        return isSo ? 1 : 0;
    }

    /** A call's -1 for nothing, as the answers have it. */
    private static int orEmpty(int cell) {
        return cell == -1 ? EMPTY : cell;
    }

    /** The bit of a cell; none for what is no cell's number. */
    private static int bit(int cell) {
        return cell >= 0 && cell < CELLS ? 1 << cell : 0;
    }

    private static boolean has(int bits, int cell) {
        return cell >= 0 && cell < CELLS && (bits >> cell & 1) != 0;
    }

    /** The lowest cell among bits of which at least one is set. */
    private static int firstOf(int bits) {
        return Integer.bitCount((bits & -bits) - 1);
    }

    private static int fieldsOf(int layout, int n) {
        switch (layout) {
            case PAIR:
            case HALF:
                return 2;
            case BOX:
            case WEAK:
                return 1;
            case ROW:
            case TABLE:
                return n;
            default:
                return 0;
        }
    }

    private static boolean isFollowed(int layout, int tag, int i) {
        switch (layout) {
            case WEAK:
                return false;
            case TABLE:
                return i % 2 != 0;
            case HALF:
                return i != 1 || tag % 2 != 0;
            default:
                return true;
        }
    }

    private static boolean isUnder(int layout, int k) {
        int one = layout;
        for (int up = 0; up < UNDER.length && one >= 0 && one < UNDER.length; up++) {
            if (one == k) {
                return true;
            }
            one = UNDER[one];
        }
        return false;
    }

    /** One bit for the mark, and what tells numbers below so many. */
    private static int bitsFor(int fields) {
        int bits = 0;
        while (bits < FIELDS && fields > 1 << bits) {
            bits++;
        }
        return 1 + bits;
    }

    private static long fraction(int above, int below, int part) {
        if (below <= 0 || part < 0 || part > 1) {
            return NO;
        }
        int asked = part == 0 ? above : below;
        for (int divisor = below; divisor > 1; divisor--) {
            if (above % divisor == 0 && below % divisor == 0) {
                return asked / divisor;
            }
        }
        return asked;
    }

    /** All that an image keeps. */
    private static final class State {
        final Graph graph = new Graph();
        final Marking marking = new Marking();
        final Sheet seen = new Sheet();
        final Sheet plan = new Sheet();
        final Sheet book = new Sheet();

        void copyFrom(State other) {
            graph.copyFrom(other.graph);
            marking.copyFrom(other.marking);
            seen.copyFrom(other.seen);
            plan.copyFrom(other.plan);
            book.copyFrom(other.book);
        }
    }

    /** Cells, what their fields hold when none is turned, and roots. */
    private static final class Graph {
        int came = 0;
        int there = 0;
        int pinned = 0;
        private final int[] layouts = new int[CELLS];
        private final int[] tags = new int[CELLS];
        private final int[] sizes = new int[CELLS];
        private final int[] held = new int[CELLS * FIELDS];
        private final int[] roots = new int[ROOTS];

        Graph() {
            Arrays.fill(roots, EMPTY);
        }

        void copyFrom(Graph other) {
            came = other.came;
            there = other.there;
            pinned = other.pinned;
            System.arraycopy(other.layouts, 0, layouts, 0, CELLS);
            System.arraycopy(other.tags, 0, tags, 0, CELLS);
            System.arraycopy(other.sizes, 0, sizes, 0, CELLS);
            System.arraycopy(other.held, 0, held, 0, CELLS * FIELDS);
            System.arraycopy(other.roots, 0, roots, 0, ROOTS);
        }

        /** A new cell's number, or EMPTY if there is no room for it. */
        int add(int layout, int tag, int fields) {
            if (came < 0 || came >= CELLS) {
                return EMPTY;
            }
            int cell = came++;
            layouts[cell] = layout;
            tags[cell] = tag;
            there |= bit(cell);
            sizes[cell] = 0;
            for (int i = 0; i < fields; i++) {
                widen(cell);
            }
            return cell;
        }

        /** One field more, which holds nothing. */
        void widen(int cell) {
            if (has(there, cell) && sizes[cell] < FIELDS) {
                sizes[cell]++;
                held[cell * FIELDS + sizes[cell] - 1] = EMPTY;
            }
        }

        boolean isThere(int cell) {
            return has(there, cell);
        }

        boolean isThereOrNothing(int cell) {
            return cell == -1 || isThere(cell);
        }

        boolean isField(int cell, int i) {
            boolean isCell = cell >= 0 && cell < CELLS && (there >> cell & 1) != 0;
            return isCell && i >= 0 && i < sizes[cell];
        }

        int layoutOf(int cell) {
            return isThere(cell) ? layouts[cell] : NONE;
        }

        int tagOf(int cell) {
            return isThere(cell) ? tags[cell] : NONE;
        }

        int sizeOf(int cell) {
            return has(there, cell) ? sizes[cell] : 0;
        }

        int heldBy(int cell, int i) {
            return isField(cell, i) ? held[cell * FIELDS + i] : EMPTY;
        }

        int heldByRoot(int root) {
            return isRoot(root) ? roots[root] : EMPTY;
        }

        void retag(int cell, int tag) {
            if (isThere(cell)) {
                tags[cell] = tag;
            }
        }

        void putInto(int cell, int i, int other) {
            if (isField(cell, i)) {
                held[cell * FIELDS + i] = other;
            }
        }

        void putIntoRoot(int root, int cell) {
            if (isRoot(root)) {
                roots[root] = cell;
            }
        }

        /** What a field holds, if it is followed; else EMPTY. */
        int leadsTo(int cell, int i) {
            if (!isField(cell, i) || !isFollowed(layouts[cell], tags[cell], i)) {
                return EMPTY;
            }
            return held[cell * FIELDS + i];
        }

        /** What a cell leads to by its fields but one. */
        int linksOf(int cell, int without) {
            int bits = 0;
            for (int i = 0; i < sizeOf(cell); i++) {
                if (i != without) {
                    bits |= bit(leadsTo(cell, i));
                }
            }
            return bits;
        }

        int heldByRoots() {
            int bits = 0;
            for (int root = 0; root < ROOTS; root++) {
                bits |= bit(roots[root]);
            }
            return bits;
        }

        int holders(int cell) {
            int holders = 0;
            for (int from = 0; from < CELLS; from++) {
                for (int i = 0; i < sizeOf(from); i++) {
                    holders += asNumber(heldBy(from, i) == cell);
                }
            }
            return holders;
        }

        /** Leaves but some cells there; how many went. Roots hold none of these that go. */
        int keepOnly(int marked) {
            int gone = there & ~marked;
            there &= marked;
            for (int from = 0; from < CELLS; from++) {
                for (int i = 0; i < sizeOf(from); i++) {
                    if (!isThere(heldBy(from, i))) {
                        putInto(from, i, EMPTY);
                    }
                }
            }
            return Integer.bitCount(gone);
        }
    }

    /**
     * A marking and what it knows of the cells. The stack is filled before any field is turned, and fields are
     * turned back before the stack is taken from: so the way down is one row of cells, of which the first ones, as
     * many as the limit, are on the stack, and all behind these have a turned field, the one by their count, which
     * holds the one ahead (the first of them: nothing).
     */
    private static final class Marking {
        boolean isRunning = false;
        boolean isClean = false;
        int marked = 0;
        int later = 0;
        int at = EMPTY;
        int depth = 0;
        int steps = 0;
        private int limit = 0;
        private int next = 0;
        private int turned = 0;
        private int pushed = 0;
        private int off = 0;
        private int deepest = 0;
        private final int[] way = new int[CELLS];
        private final int[] counts = new int[CELLS];

        void copyFrom(Marking other) {
            isRunning = other.isRunning;
            isClean = other.isClean;
            marked = other.marked;
            later = other.later;
            at = other.at;
            depth = other.depth;
            steps = other.steps;
            limit = other.limit;
            next = other.next;
            turned = other.turned;
            pushed = other.pushed;
            off = other.off;
            deepest = other.deepest;
            System.arraycopy(other.way, 0, way, 0, CELLS);
            System.arraycopy(other.counts, 0, counts, 0, CELLS);
        }

        void start(int newLimit) {
            isRunning = true;
            isClean = false;
            marked = 0;
            later = 0;
            at = EMPTY;
            depth = 0;
            steps = 0;
            limit = newLimit;
            next = 0;
            turned = 0;
            pushed = 0;
            off = 0;
            deepest = 0;
        }

        void breakOff() {
            isRunning = false;
            at = EMPTY;
            depth = 0;
        }

        /** Goes on by n steps, or till it is over; by how many. */
        int run(Graph graph, int n) {
            int before = steps;
            for (int k = 0; k < n && isRunning; k++) {
                if (at == EMPTY) {
                    setOut(graph);
                } else if (countOf(at) < graph.sizeOf(at)) {
                    goOn(graph);
                } else {
                    comeUp();
                }
                steps++;
            }
            return steps - before;
        }

        private void setOut(Graph graph) {
            if (next < ROOTS) {
                int cell = graph.heldByRoot(next);
                if (cell != EMPTY && !has(marked, cell)) {
                    mark(cell);
                    at = cell;
                }
                next++;
            } else if (later != 0) {
                at = firstOf(later);
                later &= ~bit(at);
                putCount(at, 0);
            } else {
                isRunning = false;
                isClean = true;
            }
        }

        private void goOn(Graph graph) {
            int cell = graph.leadsTo(at, countOf(at));
            if (cell == EMPTY || has(marked, cell)) {
                putCount(at, countOf(at) + 1);
                return;
            }
            mark(cell);
            if (depth < limit) {
                pushed++;
                goDown(cell);
            } else if (!has(graph.pinned, at)) {
                turned++;
                goDown(cell);
            } else {
                off++;
                later |= bit(cell);
                putCount(at, countOf(at) + 1);
            }
        }

        private void goDown(int cell) {
            if (depth >= 0 && depth < CELLS) {
                way[depth] = at;
                depth++;
            }
            deepest = Math.max(deepest, depth);
            at = cell;
        }

        private void comeUp() {
            if (depth > 0 && depth <= CELLS) {
                depth--;
                at = way[depth];
                putCount(at, countOf(at) + 1);
            } else {
                at = EMPTY;
            }
        }

        private void mark(int cell) {
            marked |= bit(cell);
            putCount(cell, 0);
        }

        private void putCount(int cell, int count) {
            if (bit(cell) != 0) {
                counts[cell] = count;
            }
        }

        int countOf(int cell) {
            return bit(cell) != 0 ? counts[cell] : 0;
        }

        /** STEPS, TURNED, PUSHED, OFF, DEEPEST by numbers from 0 on. */
        int tally(int what) {
            switch (what) {
                case 0:
                    return steps;
                case 1:
                    return turned;
                case 2:
                    return pushed;
                case 3:
                    return off;
                default:
                    return deepest;
            }
        }

        int turnedNow() {
            return Math.max(depth - limit, 0);
        }

        int back() {
            return turnedAt(depth - 1) ? way[depth - 1] : EMPTY;
        }

        boolean hasTurned(int cell) {
            return turnedAt(placeOf(cell));
        }

        boolean isTurned(int cell, int i) {
            return hasTurned(cell) && countOf(cell) == i;
        }

        /** What the turned field of a cell holds. */
        int backFrom(int cell) {
            int place = placeOf(cell);
            return turnedAt(place - 1) ? way[place - 1] : EMPTY;
        }

        private boolean turnedAt(int place) {
            return place >= 0 && place >= limit && place < depth && place < CELLS;
        }

        private int placeOf(int cell) {
            for (int place = 0; place < depth && place < CELLS; place++) {
                if (way[place] == cell) {
                    return place;
                }
            }
            return -1;
        }
    }

    /** What each cell leads to by followed fields: read from a graph anew for each question. */
    private static final class Links {
        private final int[] to = new int[CELLS];
        private int start = 0;

        void readFrom(Graph graph) {
            start = graph.heldByRoots();
            for (int cell = 0; cell < CELLS; cell++) {
                to[cell] = graph.linksOf(cell, -1);
            }
        }

        /** What one comes to from some cells, never into those that are barred. */
        int spread(int from, int barred) {
            int found = from & ~barred;
            int open = found;
            for (int k = 0; k < CELLS && open != 0; k++) {
                int cell = firstOf(open);
                open &= ~bit(cell);
                int fresh = bit(cell) == 0 ? 0 : to[cell] & ~found & ~barred;
                found |= fresh;
                open |= fresh;
            }
            return found;
        }

        int reached() {
            return spread(start, 0);
        }

        int keptBy(int cell) {
            int reached = reached();
            return has(reached, cell) ? reached & ~spread(start, bit(cell)) : 0;
        }

        /** What is reached if a field of the graph that these links were read from holds nothing. */
        int reachedWithout(Graph graph, int cell, int i) {
            if (bit(cell) == 0) {
                return spread(start, 0);
            }
            int was = to[cell];
            to[cell] = graph.linksOf(cell, i);
            int reached = spread(start, 0);
            to[cell] = was;
            return reached;
        }

        int cutOf(Graph graph, int cell) {
            int reached = reached();
            if (!has(reached, cell)) {
                return EMPTY;
            }
            for (int from = 0; from < CELLS; from++) {
                for (int i = 0; i < graph.sizeOf(from); i++) {
                    if (has(reached, from) && !has(reachedWithout(graph, from, i), cell)) {
                        return 10 * from + i;
                    }
                }
            }
            return EMPTY;
        }

        int farOf(int cell) {
            int found = start;
            for (int far = 0; far < CELLS; far++) {
                if (has(found, cell)) {
                    return far;
                }
                int before = found;
                for (int from = 0; from < CELLS; from++) {
                    found |= has(before, from) ? to[from] : 0;
                }
            }
            return EMPTY;
        }
    }

    /** Rows told by hand, of three numbers each. */
    private static final class Sheet {
        int size = 0;
        private final int[] numbers = new int[ROWS * COLUMNS];

        void copyFrom(Sheet other) {
            size = other.size;
            System.arraycopy(other.numbers, 0, numbers, 0, ROWS * COLUMNS);
        }

        int clear() {
            size = 0;
            return size;
        }

        int add(int first, int second, int third) {
            if (size >= 0 && size < ROWS) {
                numbers[size * COLUMNS] = first;
                numbers[size * COLUMNS + 1] = second;
                numbers[size * COLUMNS + 2] = third;
                size++;
            }
            return size;
        }

        int number(int row, int column) {
            boolean isThere = row >= 0 && row < size && row < ROWS && column >= 0 && column < COLUMNS;
            return isThere ? numbers[row * COLUMNS + column] : EMPTY;
        }
    }

    /** The text, and what is open while it is read: the innermost last. */
    private static final class Text {
        int length = 0;
        int made = 0;
        int outermost = EMPTY;
        private final int[] signs = new int[SIGNS];
        private final int[] openCells = new int[OPEN];
        private final int[] openLayouts = new int[OPEN];
        private final int[] filled = new int[OPEN];
        private int depth = 0;
        private boolean isWanting = true;

        boolean append(int sign) {
            if (length < 0 || length >= SIGNS) {
                return false;
            }
            signs[length] = sign;
            length++;
            return true;
        }

        /**
         * Adds to a graph the cells that the text makes, as far as there is room; letters mean cells that were
         * there before. Answers the place of the fault (-1: none).
         */
        int readInto(Graph graph, int before) {
            made = 0;
            depth = 0;
            isWanting = true;
            for (int place = 0; place < length && place < SIGNS; place++) {
                if (!take(signs[place], graph, before)) {
                    return place;
                }
            }
            return depth == 0 && !isWanting ? -1 : length;
        }

        private boolean take(int sign, Graph graph, int before) {
            if (!isWanting) {
                return goOn(sign);
            }
            if (sign == ']' && isRowJustOpened()) {
                return close();
            }
            if (sign == '(' || sign == '[' || sign == '<') {
                return open(sign, graph);
            }
            isWanting = false;
            if (sign == '~') {
                return put(EMPTY, graph);
            }
            if (sign >= '0' && sign <= '9') {
                made++;
                return put(graph.add(ATOM, sign - '0', 0), graph);
            }
            if (sign >= 'a' && sign <= 'x') {
                return has(before, sign - 'a') && put(sign - 'a', graph);
            }
            int around = depth - 1 - (sign - 'A');
            return sign >= 'A' && sign <= 'F' && around >= 0 && around < OPEN && put(openCells[around], graph);
        }

        private boolean open(int sign, Graph graph) {
            if (depth < 0 || depth >= OPEN) {
                return false;
            }
            int layout = sign == '(' ? PAIR : sign == '[' ? ROW : BOX;
            int cell = graph.add(layout, 0, fieldsOf(layout, 0));
            made++;
            put(cell, graph);
            openCells[depth] = cell;
            openLayouts[depth] = layout;
            filled[depth] = 0;
            depth++;
            return true;
        }

        /** Puts a cell, or nothing, where the text stands: into the innermost cell that is open, or outermost. */
        private boolean put(int cell, Graph graph) {
            if (depth <= 0 || depth > OPEN) {
                outermost = cell;
                return true;
            }
            int top = depth - 1;
            if (openLayouts[top] == ROW) {
                graph.widen(openCells[top]);
            }
            graph.putInto(openCells[top], filled[top], cell);
            filled[top]++;
            return true;
        }

        /** Takes what comes behind an element. */
        private boolean goOn(int sign) {
            if (depth <= 0 || depth > OPEN) {
                return false;
            }
            int top = depth - 1;
            switch (openLayouts[top]) {
                case PAIR:
                    return filled[top] < 2 ? sign == '.' && wantMore() : sign == ')' && close();
                case ROW:
                    return sign == ']' ? close() : sign == ',' && filled[top] < FIELDS && wantMore();
                default:
                    return sign == '>' && close();
            }
        }

        private boolean isRowJustOpened() {
            return depth > 0 && depth <= OPEN && openLayouts[depth - 1] == ROW && filled[depth - 1] == 0;
        }

        private boolean wantMore() {
            isWanting = true;
            return true;
        }

        private boolean close() {
            depth--;
            isWanting = false;
            return true;
        }
    }

    /** Rows of items, each of a sort or, with the sort EMPTY, nothing. */
    private static final class Tapes {
        private final int[] sorts = new int[TAPES];
        private final int[] lengths = new int[TAPES];
        private final long[] items = new long[TAPES * ITEMS];

        Tapes() {
            Arrays.fill(sorts, EMPTY);
        }

        int sortOf(int tape) {
            return isTape(tape) ? sorts[tape] : EMPTY;
        }

        boolean isPlace(int tape, int i) {
            return isTape(tape) && i >= 0 && i < lengths[tape];
        }

        boolean isSpan(int tape, int i, int n) {
            return isTape(tape) && n >= 0 && i >= 0 && i <= lengths[tape] && n <= lengths[tape] - i;
        }

        void lay(int tape, int sort, int n) {
            if (isTape(tape) && n >= 0 && n <= ITEMS) {
                sorts[tape] = sort;
                lengths[tape] = n;
                Arrays.fill(items, tape * ITEMS, tape * ITEMS + n, 0L);
            }
        }

        long itemAt(int tape, int i) {
            return isPlace(tape, i) ? items[tape * ITEMS + i] : 0;
        }

        void write(int tape, int i, long v) {
            if (isPlace(tape, i)) {
                items[tape * ITEMS + i] = cutDown(sorts[tape], v);
            }
        }

        void move(int tape, int i, int other, int j, int n) {
            if (isSpan(tape, i, n) && isSpan(other, j, n)) {
                System.arraycopy(items, tape * ITEMS + i, items, other * ITEMS + j, n);
            }
        }

        private static long cutDown(int sort, long v) {
            switch (sort) {
                case 0:
                    return (byte) v;
                case 1:
                    return (short) v;
                case 2:
                    return (int) v;
                case 3:
                    return v;
                default:
                    return v != 0 ? 1 : 0;
            }
        }
    }
}
