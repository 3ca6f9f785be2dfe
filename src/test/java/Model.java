import java.util.ArrayList;
import java.util.Arrays;
import java.util.List;

/**
 * The document's words once more, as literally as can be and without regard to cost: fields are really turned and
 * turned back, and each question is asked of a copy. ModelTest compares ReversedLinks with this.
 */
final class Model {
    private static final class Cell {
        int layout;
        int tag;
        int[] fields;
        int count;
        boolean isMarked;
        boolean isLater;
        boolean isPinned;
        boolean isMissing;

        Cell copy() {
            Cell c = new Cell();
            c.layout = layout;
            c.tag = tag;
            c.fields = fields.clone();
            c.count = count;
            c.isMarked = isMarked;
            c.isLater = isLater;
            c.isPinned = isPinned;
            c.isMissing = isMissing;
            return c;
        }

        boolean follows(int i) {
            return switch (layout) {
                case 4 -> false;
                case 5 -> i % 2 == 1;
                case 6 -> i == 0 || tag % 2 == 1;
                default -> true;
            };
        }
    }

    /** What THE IMAGE holds. */
    private static final class World {
        List<Cell> cells = new ArrayList<>();
        int[] roots = {-5, -5, -5, -5};
        boolean runs;
        boolean isClean;
        int at = -5;
        int back = -5;
        int limit;
        int next;
        List<Integer> stack = new ArrayList<>();
        int steps;
        int turned;
        int pushed;
        int off;
        int deepest;
        List<int[]> seen = new ArrayList<>();
        List<int[]> plan = new ArrayList<>();
        List<int[]> book = new ArrayList<>();

        World copy() {
            World w = new World();
            for (Cell c : cells) {
                w.cells.add(c.copy());
            }
            w.roots = roots.clone();
            w.runs = runs;
            w.isClean = isClean;
            w.at = at;
            w.back = back;
            w.limit = limit;
            w.next = next;
            w.stack.addAll(stack);
            w.steps = steps;
            w.turned = turned;
            w.pushed = pushed;
            w.off = off;
            w.deepest = deepest;
            w.seen.addAll(seen);
            w.plan.addAll(plan);
            w.book.addAll(book);
            return w;
        }

        boolean has(int cell) {
            return cell >= 0 && cell < cells.size() && !cells.get(cell).isMissing;
        }

        boolean has(int cell, int i) {
            return has(cell) && i >= 0 && i < cells.get(cell).fields.length;
        }

        int there() {
            int n = 0;
            for (Cell c : cells) {
                n += c.isMissing ? 0 : 1;
            }
            return n;
        }

        /** The cells with a turned field, by the way that BACK and turned fields tell: the latest first. */
        List<Integer> turnedCells() {
            List<Integer> way = new ArrayList<>();
            for (int b = back; b != -5; b = cells.get(b).fields[cells.get(b).count]) {
                way.add(b);
            }
            return way;
        }

        void breakOff() {
            int above = at;
            int b = back;
            while (b != -5) {
                Cell c = cells.get(b);
                int next = c.fields[c.count];
                c.fields[c.count] = above;
                above = b;
                b = next;
            }
            runs = false;
            at = -5;
            back = -5;
            stack.clear();
        }

        World unturned() {
            World w = copy();
            w.breakOff();
            return w;
        }

        void begin(int limit) {
            for (Cell c : cells) {
                c.isMarked = false;
                c.isLater = false;
            }
            this.limit = limit;
            runs = true;
            isClean = false;
            at = -5;
            back = -5;
            stack.clear();
            next = 0;
            steps = 0;
            turned = 0;
            pushed = 0;
            off = 0;
            deepest = 0;
        }

        private void enter(int cell) {
            cells.get(cell).isMarked = true;
            cells.get(cell).count = 0;
        }

        void step() {
            if (at == -5) {
                stepFromNone();
            } else if (cells.get(at).count < cells.get(at).fields.length) {
                stepAtField(cells.get(at));
            } else {
                stepBack();
            }
            steps++;
            deepest = Math.max(deepest, stack.size() + turnedCells().size());
        }

        private void stepFromNone() {
            if (next < 4) {
                int held = roots[next];
                if (held != -5 && !cells.get(held).isMarked) {
                    at = held;
                    enter(held);
                }
                next++;
                return;
            }
            for (int cell = 0; cell < cells.size(); cell++) {
                if (cells.get(cell).isLater) {
                    at = cell;
                    cells.get(cell).isLater = false;
                    cells.get(cell).count = 0;
                    return;
                }
            }
            runs = false;
            isClean = true;
        }

        private void stepAtField(Cell c) {
            int held = c.fields[c.count];
            if (!c.follows(c.count) || held == -5 || cells.get(held).isMarked) {
                c.count++;
                return;
            }
            enter(held);
            if (stack.size() < limit) {
                stack.add(at);
                pushed++;
                at = held;
            } else if (!c.isPinned) {
                c.fields[c.count] = back;
                back = at;
                turned++;
                at = held;
            } else {
                cells.get(held).isLater = true;
                off++;
                c.count++;
            }
        }

        private void stepBack() {
            if (back != -5) {
                Cell b = cells.get(back);
                int heldThere = b.fields[b.count];
                b.fields[b.count] = at;
                at = back;
                back = heldThere;
                b.count++;
            } else if (!stack.isEmpty()) {
                at = stack.remove(stack.size() - 1);
                cells.get(at).count++;
            } else {
                at = -5;
            }
        }

        int go(int n) {
            int k = 0;
            while (k < n && runs) {
                step();
                k++;
            }
            return k;
        }

        int marked() {
            int bits = 0;
            for (int cell = 0; cell < cells.size(); cell++) {
                bits |= cells.get(cell).isMarked ? 1 << cell : 0;
            }
            return bits;
        }

        int later() {
            int bits = 0;
            for (int cell = 0; cell < cells.size(); cell++) {
                bits |= cells.get(cell).isLater ? 1 << cell : 0;
            }
            return bits;
        }

        /** How many fields it is to each cell from some, all fields being as they are here (-5: no way). */
        int[] far(List<Integer> from) {
            int[] far = new int[cells.size()];
            Arrays.fill(far, -5);
            List<Integer> row = new ArrayList<>();
            for (int cell : from) {
                if (far[cell] == -5) {
                    far[cell] = 0;
                    row.add(cell);
                }
            }
            for (int k = 0; k < row.size(); k++) {
                Cell c = cells.get(row.get(k));
                for (int i = 0; i < c.fields.length; i++) {
                    int to = c.fields[i];
                    if (c.follows(i) && to != -5 && far[to] == -5) {
                        far[to] = far[row.get(k)] + 1;
                        row.add(to);
                    }
                }
            }
            return far;
        }

        int[] farFromRoots() {
            List<Integer> from = new ArrayList<>();
            for (int held : roots) {
                if (held != -5) {
                    from.add(held);
                }
            }
            return far(from);
        }

        static int bits(int[] far) {
            int bits = 0;
            for (int cell = 0; cell < far.length; cell++) {
                bits |= far[cell] >= 0 ? 1 << cell : 0;
            }
            return bits;
        }

        int reached() {
            return bits(farFromRoots());
        }

        int keeps(int cell) {
            int before = reached();
            if ((before >> cell & 1) == 0) {
                return 0;
            }
            World w = copy();
            for (Cell c : w.cells) {
                for (int i = 0; i < c.fields.length; i++) {
                    if (c.fields[i] == cell) {
                        c.fields[i] = -5;
                    }
                }
            }
            for (int r = 0; r < 4; r++) {
                if (w.roots[r] == cell) {
                    w.roots[r] = -5;
                }
            }
            return before & ~w.reached();
        }

        int cut(int cell) {
            if ((reached() >> cell & 1) == 0) {
                return -5;
            }
            for (int from = 0; from < cells.size(); from++) {
                for (int i = 0; !cells.get(from).isMissing && i < cells.get(from).fields.length; i++) {
                    World w = copy();
                    w.cells.get(from).fields[i] = -5;
                    if ((w.reached() >> cell & 1) == 0) {
                        return 10 * from + i;
                    }
                }
            }
            return -5;
        }

        /** Whether a marking begun here, by a limit, is as seen. */
        boolean fits(int limit) {
            for (int[] row : seen) {
                World w = copy();
                w.begin(limit);
                w.go(row[1]);
                if (w.cells.get(row[0]).isMarked != (row[2] == 1)) {
                    return false;
                }
            }
            return true;
        }
    }

    private static final class Fault extends RuntimeException {
        private static final long serialVersionUID = 1;
        final int place;

        Fault(int place) {
            this.place = place;
        }
    }

    private World w = new World();
    private World image;
    private String text = "";
    private final long[][] tapes = new long[6][];
    private final int[] sorts = new int[6];

    private static int one(boolean b) {
        return b ? 1 : 0;
    }

    // ---- cells

    int cell(int layout, int tag, int n) {
        if (layout < 0 || layout > 6) return -1;
        if (tag < 0 || tag > 9) return -2;
        if ((layout == 2 || layout == 5) && (n < 0 || n > 6)) return -2;
        if (w.runs) return -3;
        if (w.cells.size() == 24) return -4;
        w.cells.add(made(layout, tag, n));
        w.isClean = false;
        return w.cells.size() - 1;
    }

    private static Cell made(int layout, int tag, int n) {
        Cell c = new Cell();
        c.layout = layout;
        c.tag = tag;
        int[] sizes = {0, 2, n, 1, 1, n, 2};
        c.fields = new int[sizes[layout]];
        Arrays.fill(c.fields, -5);
        return c;
    }

    int of(int cell, int what) {
        if (!w.has(cell)) return -1;
        Cell c = w.cells.get(cell);
        World u = w.unturned();
        switch (what) {
            case 0: return c.layout;
            case 1: return c.tag;
            case 2: return c.fields.length;
            case 3: return one(c.isMarked);
            case 4: return c.count;
            case 5: return one(c.isLater);
            case 6: return one(c.isPinned);
            case 7: {
                int holders = 0;
                for (Cell from : u.cells) {
                    for (int held : from.fields) {
                        holders += one(!from.isMissing && held == cell);
                    }
                }
                return holders;
            }
            case 8: return u.farFromRoots()[cell];
            case 9: return World.bits(u.far(List.of(cell)));
            case 10: return u.keeps(cell);
            case 11: return u.cut(cell);
            case 12: {
                int bits = 0;
                while (Math.pow(2, bits) < c.fields.length) {
                    bits++;
                }
                return 1 + bits;
            }
            default: return -1;
        }
    }

    int field(int cell, int i) {
        return w.has(cell, i) ? w.unturned().cells.get(cell).fields[i] : -1;
    }

    int raw(int cell, int i) {
        return w.has(cell, i) ? w.cells.get(cell).fields[i] : -1;
    }

    int hold(int cell, int i, int other) {
        if (!w.has(cell, i) || other != -1 && !w.has(other)) return -1;
        if (w.runs) return -3;
        int was = w.cells.get(cell).fields[i];
        w.cells.get(cell).fields[i] = other == -1 ? -5 : other;
        w.isClean = false;
        return was;
    }

    int tag(int cell, int n) {
        if (!w.has(cell)) return -1;
        if (n < 0 || n > 9) return -2;
        if (w.runs) return -3;
        int was = w.cells.get(cell).tag;
        w.cells.get(cell).tag = n;
        w.isClean = false;
        return was;
    }

    int root(int root, int cell) {
        if (root < 0 || root > 3 || cell != -1 && !w.has(cell)) return -1;
        if (w.runs) return -3;
        int was = w.roots[root];
        w.roots[root] = cell == -1 ? -5 : cell;
        w.isClean = false;
        return was;
    }

    int pin(int cell, boolean isPinned) {
        if (!w.has(cell)) return -1;
        if (w.turnedCells().contains(cell)) return -3;
        boolean was = w.cells.get(cell).isPinned;
        w.cells.get(cell).isPinned = isPinned;
        return one(was);
    }

    // ---- texts

    int feed(int sign) {
        if (sign < 0 || sign > 127) return -2;
        if (text.length() == 100) return -4;
        text += (char) sign;
        return text.length();
    }

    private int place;
    private List<Cell> fresh;

    private int sign() {
        return place < text.length() ? text.charAt(place) : -1;
    }

    private void must(int sign) {
        if (sign() != sign) throw new Fault(place);
        place++;
    }

    /** An element within others; answers its cell, or -5. */
    private int element(List<Integer> around) {
        int sign = sign();
        if (sign == '~') {
            place++;
            return -5;
        }
        if (sign >= '0' && sign <= '9') {
            place++;
            fresh.add(made(0, sign - '0', 0));
            return w.cells.size() + fresh.size() - 1;
        }
        if (sign >= 'a' && sign <= 'x' && w.has(sign - 'a')) {
            place++;
            return sign - 'a';
        }
        if (sign >= 'A' && sign <= 'F' && sign - 'A' < around.size()) {
            place++;
            return around.get(sign - 'A');
        }
        if ((sign == '(' || sign == '[' || sign == '<') && around.size() < 6) {
            return compound(sign, around);
        }
        throw new Fault(place);
    }

    private int compound(int sign, List<Integer> around) {
        Cell c = made(sign == '(' ? 1 : sign == '[' ? 2 : 3, 0, 0);
        fresh.add(c);
        int number = w.cells.size() + fresh.size() - 1;
        List<Integer> inside = new ArrayList<>();
        inside.add(number);
        inside.addAll(around);
        place++;
        if (sign == '(') {
            c.fields[0] = element(inside);
            must('.');
            c.fields[1] = element(inside);
            must(')');
        } else if (sign == '<') {
            c.fields[0] = element(inside);
            must('>');
        } else if (sign() == ']') {
            place++;
        } else {
            List<Integer> held = new ArrayList<>();
            held.add(element(inside));
            while (sign() == ',' && held.size() < 6) {
                place++;
                held.add(element(inside));
            }
            must(']');
            c.fields = held.stream().mapToInt(Integer::intValue).toArray();
        }
        return number;
    }

    int build(int root) {
        if (root < 0 || root > 3) return -1;
        if (w.runs) return -3;
        place = 0;
        fresh = new ArrayList<>();
        int held;
        try {
            held = element(new ArrayList<>());
            must(-1);
        } catch (Fault f) {
            text = "";
            return -10 - f.place;
        }
        text = "";
        if (w.cells.size() + fresh.size() > 24) return -4;
        w.cells.addAll(fresh);
        w.roots[root] = held;
        w.isClean = false;
        return fresh.size();
    }

    // ---- marking

    int begin(int limit) {
        if (limit < 0 || limit > 8) return -2;
        if (w.runs) return -3;
        w.begin(limit);
        return w.there();
    }

    int step(int n) {
        if (n < 0 || n > 99) return -2;
        if (!w.runs) return -3;
        return w.go(n);
    }

    int leave() {
        if (!w.runs) return -3;
        int turned = w.turnedCells().size();
        w.breakOff();
        return turned;
    }

    int sweep() {
        if (!w.isClean) return -3;
        int gone = 0;
        for (Cell c : w.cells) {
            if (!c.isMissing && !c.isMarked) {
                c.isMissing = true;
                gone++;
            }
        }
        for (Cell c : w.cells) {
            for (int i = 0; i < c.fields.length; i++) {
                if (c.fields[i] != -5 && w.cells.get(c.fields[i]).isMissing || c.isMissing) {
                    c.fields[i] = -5;
                }
            }
            c.isMarked = false;
        }
        w.isClean = false;
        return gone;
    }

    int told(int what) {
        switch (what) {
            case 0: return one(w.runs);
            case 1: return w.at;
            case 2: return w.back;
            case 3: return w.steps;
            case 4: return w.turned;
            case 5: return w.pushed;
            case 6: return w.off;
            case 7: return w.deepest;
            case 8: return w.marked();
            case 9: return w.later();
            case 10: return w.unturned().reached();
            case 11: return w.copy().go(100000);
            case 12: return w.stack.size();
            case 13: {
                int bits = 0;
                for (int cell = 0; cell < w.cells.size(); cell++) {
                    bits |= w.has(cell) ? 1 << cell : 0;
                }
                return bits;
            }
            case 14: return one(w.isClean);
            default: return what > 14 && what < 19 ? w.roots[what - 15] : -1;
        }
    }

    int on(int n, int what) {
        if (what < 0 || what > 4) return -1;
        if (n < 0 || n > 400) return -2;
        World v = w.copy();
        v.go(n);
        return new int[] {v.at, v.back, v.marked(), v.turnedCells().size(), v.steps}[what];
    }

    private int[] needs(int limit) {
        World v = w.copy();
        v.begin(limit);
        v.go(100000);
        return new int[] {v.steps, v.turned, v.pushed, v.off, v.deepest};
    }

    int need(int limit, int what) {
        if (what < 0 || what > 4) return -1;
        if (limit < 0 || limit > 8) return -2;
        if (w.runs) return -3;
        return needs(limit)[what];
    }

    int least(int what) {
        if (what < 0 || what > 1) return -1;
        if (w.runs) return -3;
        for (int limit = 0; limit <= 8; limit++) {
            if (needs(limit)[what == 0 ? 1 : 3] == 0) return limit;
        }
        return -5;
    }

    // ---- seen, odds

    int see(int cell, int n, boolean isMarked) {
        if (cell == -1) {
            w.seen.clear();
            return 0;
        }
        if (!w.has(cell)) return -1;
        if (n < 0 || n > 40) return -2;
        if (w.seen.size() == 5) return -4;
        w.seen.add(new int[] {cell, n, one(isMarked)});
        return w.seen.size();
    }

    int fits(int limit) {
        if (limit < 0 || limit > 8) return -2;
        if (w.runs) return -3;
        int bits = 0;
        for (int cell = 0; cell < w.cells.size(); cell++) {
            World v = w.copy();
            v.roots[0] = cell;
            bits |= w.has(cell) && v.fits(limit) ? 1 << cell : 0;
        }
        return bits;
    }

    int can(int cell, int limit, int what) {
        if (!w.has(cell) || what < 0 || what > 1) return -1;
        if (limit < 0 || limit > 8) return -2;
        if (w.runs) return -3;
        List<Integer> tags = new ArrayList<>();
        for (int tag = 0; tag < 10; tag++) {
            World v = w.copy();
            v.cells.get(cell).tag = tag;
            if (v.fits(limit)) {
                tags.add(tag);
            }
        }
        return what == 0 ? tags.size() : tags.isEmpty() ? -5 : tags.get(0);
    }

    private static long part(long above, long below, int part) {
        if (part < 0 || part > 1 || below == 0) return Long.MIN_VALUE;
        long a = above;
        long b = below;
        while (a != 0) {
            long rest = b % a;
            b = a;
            a = rest;
        }
        return (part == 0 ? above : below) / b;
    }

    long odds(int cell, int part) {
        if (!w.has(cell)) return Long.MIN_VALUE;
        World u = w.unturned();
        int reached = 0;
        int all = 0;
        for (int from = 0; from < u.cells.size(); from++) {
            Cell c = u.cells.get(from);
            for (int i = 0; !c.isMissing && i < c.fields.length; i++) {
                if (c.follows(i) && c.fields[i] != -5) {
                    World v = u.copy();
                    v.cells.get(from).fields[i] = -5;
                    all++;
                    reached += v.reached() >> cell & 1;
                }
            }
        }
        return part(reached, all, part);
    }

    long mean(int part) {
        int sum = 0;
        int all = 0;
        for (int far : w.unturned().farFromRoots()) {
            if (far >= 0) {
                sum += far;
                all++;
            }
        }
        return part(sum, all, part);
    }

    // ---- plans, books

    int plan(int what, int n) {
        if (what == -1) {
            w.plan.clear();
            return 0;
        }
        boolean is = what == 0 ? n >= 0 && w.has(n / 10, n % 10) : what == 1 ? n >= 0 && n < 4 : what == 2 && w.has(n);
        if (!is) return -1;
        if (w.plan.size() == 10) return -4;
        w.plan.add(new int[] {what, n});
        return w.plan.size();
    }

    int ends() {
        World v = w.unturned();
        for (int[] row : w.plan) {
            if (row[0] == 0 && v.has(row[1] / 10)) {
                v.cells.get(row[1] / 10).fields[row[1] % 10] = -5;
            } else if (row[0] == 1) {
                v.roots[row[1]] = -5;
            } else if (row[0] == 2 && v.has(row[1])) {
                v.cells.get(row[1]).tag = 0;
            }
        }
        return v.reached();
    }

    int book(int cell, int i, int other) {
        if (cell == -1) {
            w.book.clear();
            return 0;
        }
        if (!w.has(cell, i) || other != -1 && !w.has(other)) return -1;
        if (w.book.size() == 8) return -4;
        w.book.add(new int[] {cell, i, other == -1 ? -5 : other});
        return w.book.size();
    }

    int looked() {
        World u = w.unturned();
        for (int row = 0; row < w.book.size(); row++) {
            int[] r = w.book.get(row);
            if (!u.has(r[0]) || u.cells.get(r[0]).fields[r[1]] != r[2]) return row;
        }
        return -5;
    }

    // ---- judging, the image, tapes

    int judge(int tape, int i) {
        if (tape < 0 || tape > 5) return -1;
        if (tapes[tape] != null && sorts[tape] != 4) return -12;
        if (w.cells.isEmpty()) return -5;
        long[] row = tapes[tape] == null ? new long[0] : tapes[tape];
        for (int k = 0; k < w.cells.size(); k++) {
            long place = (long) i + k;
            if (i < 0 || place >= row.length) return 100 + k;
            if (row[(int) place] != one(w.cells.get(k).isMarked)) return k;
        }
        return -5;
    }

    int image() {
        image = w.copy();
        return w.there();
    }

    int undo() {
        if (image == null) return -3;
        w = image.copy();
        return w.there();
    }

    int taken(int cell, int k) {
        if (k < 0 || k > 6) return -2;
        if (!w.has(cell)) return -11;
        int layout = w.cells.get(cell).layout;
        boolean is = k == layout || k == 0 || k == 3 && layout == 4 || k == 2 && layout == 5 || k == 1 && layout == 6;
        return is ? layout : -12;
    }

    int count(int what) {
        if (what < 0 || what > 4) return -2;
        return new int[] {w.cells.size(), w.seen.size(), w.plan.size(), w.book.size(), text.length()}[what];
    }

    int tape(int tape, int sort, int n) {
        if (tape < 0 || tape > 5) return -1;
        if (sort == -1) {
            tapes[tape] = null;
            return 1;
        }
        if (sort < 0 || sort > 4 || n > 60) return -2;
        if (n < 0) return -14;
        tapes[tape] = new long[n];
        sorts[tape] = sort;
        return 1;
    }

    int item(int tape, int i, long v) {
        if (tape < 0 || tape > 5) return -1;
        if (tapes[tape] == null) return -11;
        if (i < 0 || i >= tapes[tape].length) return -13;
        long[] cut = {(byte) v, (short) v, (int) v, v, one(v != 0)};
        tapes[tape][i] = cut[sorts[tape]];
        return 1;
    }

    long read(int tape, int i) {
        if (tape < 0 || tape > 5 || tapes[tape] == null || i < 0 || i >= tapes[tape].length) return Long.MIN_VALUE;
        return tapes[tape][i];
    }

    int shift(int tape, int i, int other, int j, int n) {
        if (tape < 0 || tape > 5 || other < 0 || other > 5) return -1;
        if (tapes[tape] == null || tapes[other] == null) return -11;
        if (sorts[tape] != sorts[other]) return -12;
        boolean isThere = n >= 0 && i >= 0 && j >= 0 && (long) i + n <= tapes[tape].length && (long) j + n <= tapes[other].length;
        if (!isThere) return -13;
        long[] before = tapes[tape].clone();
        for (int k = 0; k < n; k++) {
            tapes[other][j + k] = before[i + k];
        }
        return n;
    }
}
