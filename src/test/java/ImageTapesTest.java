/** Promises 29 to 37. */
final class ImageTapesTest extends Due {
    public static void main(String[] args) {
        judge();
        judgeMissing();
        image();
        imageOfAMarking();
        notInTheImage();
        taken();
        count();
        tape();
        item();
        shift();
        end();
    }

    static void judge() {
        ReversedLinks x = new ReversedLinks();
        is(-1, x.judge(6, 0), "29: tape 6");
        is(-1, x.judge(-1, 0), "29: tape -1");
        is(-5, x.judge(0, 0), "29: no cells, and no row");
        is(-5, x.judge(0, MIN), "29: no cells, wherever the place is");
        for (int sort = 0; sort < 4; sort++) {
            x.tape(1, sort, 3);
            is(-12, x.judge(1, 0), "29: a row of another sort");
        }
        x.tape(0, 4, 3);
        is(-5, x.judge(0, 99), "29: no cells, wherever the place is");
        build(x, "(1.2)", 0);
        is(-12, x.judge(1, 0), "29: a row of another sort");
        is(100, x.judge(2, 0), "29: it holds nothing");
        is(100, x.judge(0, -1), "29: place -1");
        is(100, x.judge(0, MIN), "29: a least place");
        is(100, x.judge(0, MAX), "29: a greatest place");
        is(100, x.judge(0, 3), "29: the row ended ahead");
        is(-5, x.judge(0, 0), "29: none is marked");
        is(102, x.judge(0, 1), "29: two were looked at");
        is(101, x.judge(0, 2), "29: one was looked at");
        x.item(0, 1, 1);
        is(1, x.judge(0, 0), "29: the second is otherwise");
        is(0, x.judge(0, 1), "29: counted from that place on");
        is(101, x.judge(0, 2), "29: none otherwise as far as the row goes");
        x.begin(0);
        x.step(2);
        is(0, x.judge(0, 0), "29: the first is otherwise");
        x.item(0, 0, 1);
        is(-5, x.judge(0, 0), "29: as it is");
        is(1, x.judge(0, 1), "29: counted from that place on");
        x.tape(5, 4, 60);
        for (int i = 57; i < 60; i++) {
            x.item(5, i, 1);
        }
        finish(x);
        is(-5, x.judge(5, 57), "29: at the row's end");
        is(102, x.judge(5, 58), "29: over the row's end");
        is(0, x.judge(5, 56), "29: the first is otherwise");
    }

    /** Missing cells are gone through, too: they came, and aren't marked. */
    static void judgeMissing() {
        ReversedLinks x = new ReversedLinks();
        x.cell(ATOM, 0, 0);
        x.cell(ATOM, 0, 0);
        x.cell(ATOM, 0, 0);
        x.root(0, 1);
        x.begin(0);
        finish(x);
        is(2, x.sweep(), "29: two go");
        x.tape(0, 4, 3);
        is(-5, x.judge(0, 0), "29: none is marked");
        x.begin(0);
        finish(x);
        is(1, x.judge(0, 0), "29: the one that is there, by its number");
        x.item(0, 1, 1);
        is(-5, x.judge(0, 0), "29: as it is");
        is(0, x.judge(0, 1), "29: a missing one isn't marked");
        x.item(0, 2, 1);
        is(2, x.judge(0, 0), "29: a missing one isn't marked");
    }

    static void image() {
        ReversedLinks x = built("(1.<2>)");
        is(-3, x.undo(), "31: there is none");
        x.see(1, 2, true);
        x.plan(1, 0);
        x.book(0, 0, 1);
        x.pin(1, true);
        x.cell(ATOM, 4, 0);
        is(5, x.image(), "30: how many are there");
        x.cell(ROW, 0, 6);
        x.hold(0, 0, 5);
        x.hold(5, 5, 0);
        x.tag(4, 9);
        x.root(3, 5);
        x.pin(1, false);
        x.pin(2, true);
        x.see(-1, 0, true);
        x.see(2, 2, false);
        x.see(0, 1, false);
        x.plan(-1, 0);
        x.book(0, 1, 2);
        x.begin(0);
        finish(x);
        is(2, x.sweep(), "31: two go");
        is(5, x.undo(), "31: how many are there");
        is(5, x.count(0), "31: those that came");
        is(31, x.told(13), "31: those that are there");
        is(1, x.field(0, 0), "31: a field");
        is(4, x.of(4, 1), "31: a tag");
        is(-5, x.told(18), "31: a root");
        is(1, x.of(1, 6), "31: pinned");
        is(0, x.of(2, 6), "31: not pinned");
        is(1, x.count(1), "31: seen");
        is(1, x.count(2), "31: the plan");
        is(1, x.count(3), "31: the book");
        is(0, x.ends(), "31: the plan's row");
        is(-5, x.looked(), "31: the book's row");
        is(1, x.fits(0) & 1, "31: what was seen");
        is(0, x.told(3), "31: the marking's numbers");
        is(0, x.told(14), "31: not clean");
        is(0, x.of(0, 4), "31: counts");
        is(5, x.cell(ROW, 0, 2), "31: the number is the next again");
        is(-5, x.field(5, 0), "31: a new cell's field");
        is(2, x.of(5, 2), "31: a new cell's fields");
        is(5, x.undo(), "31: once more");
        is(5, x.image(), "30: another one");
        x.cell(ATOM, 0, 0);
        is(6, x.image(), "30: the latest counts");
        x.cell(ATOM, 0, 0);
        is(6, x.undo(), "31: the latest one");
        is(6, x.count(0), "31: the latest one");
    }

    static void imageOfAMarking() {
        ReversedLinks x = chain(6);
        x.pin(3, true);
        x.begin(1);
        x.step(5);
        is(6, x.image(), "30: while a marking runs");
        int[] told = new int[19];
        for (int what = 0; what < 19; what++) {
            told[what] = x.told(what);
        }
        int raw = x.raw(2, 0);
        is(1, raw, "30: turned");
        finish(x);
        x.sweep();
        x.root(0, -1);
        is(6, x.undo(), "31: none runs now");
        for (int what = 0; what < 19; what++) {
            is(told[what], x.told(what), "31: told " + what);
        }
        is(raw, x.raw(2, 0), "31: turned again");
        x.begin(3);
        finish(x);
        x.begin(0);
        x.leave();
        x.undo();
        for (int what = 0; what < 19; what++) {
            is(told[what], x.told(what), "31: told " + what + ", once more");
        }
        is(raw, x.raw(2, 0), "31: turned once more");
        finish(x);
        is(1, x.told(14), "31: over");
        is(6, x.image(), "30: clean");
        x.tag(0, 1);
        x.undo();
        is(1, x.told(14), "31: clean");
        is(0, x.sweep(), "31: clean");
        x.undo();
        is(0, x.sweep(), "31: clean again");
        x.undo();
        x.begin(0);
        is(6, x.undo(), "31: while one runs");
        is(0, x.told(0), "31: none runs");
    }

    static void notInTheImage() {
        ReversedLinks x = new ReversedLinks();
        x.image();
        feed(x, "(1");
        x.tape(0, 3, 2);
        x.item(0, 1, 7);
        is(0, x.undo(), "31: no cells");
        is(2, x.count(4), "31: the text stays");
        is(7, x.read(0, 1), "31: tapes stay");
    }

    static void taken() {
        boolean[][] isUnder = new boolean[7][7];
        for (int layout = 0; layout < 7; layout++) {
            isUnder[layout][layout] = true;
            isUnder[layout][ATOM] = true;
        }
        isUnder[WEAK][BOX] = true;
        isUnder[TABLE][ROW] = true;
        isUnder[HALF][PAIR] = true;
        isUnder[WEAK][ATOM] = true;
        ReversedLinks x = new ReversedLinks();
        for (int layout = 0; layout < 7; layout++) {
            x.cell(layout, 0, 1);
            for (int k = 0; k < 7; k++) {
                is(isUnder[layout][k] ? layout : -12, x.taken(layout, k), "32: layout " + layout + " for " + k);
            }
        }
        is(-2, x.taken(0, 7), "32: layout 7");
        is(-2, x.taken(9, -1), "32: layout -1, ahead of the cell");
        is(-11, x.taken(7, 0), "32: no such cell");
        is(-11, x.taken(-1, 0), "32: cell -1");
        x.begin(0);
        finish(x);
        x.sweep();
        is(-11, x.taken(0, 0), "32: missing");
    }

    static void count() {
        ReversedLinks x = built("<~>");
        x.cell(ATOM, 0, 0);
        x.see(0, 0, true);
        x.see(0, 0, true);
        x.see(0, 0, true);
        x.plan(1, 0);
        x.plan(1, 0);
        x.plan(1, 0);
        x.plan(1, 0);
        x.book(0, 0, -1);
        feed(x, "12345");
        is(2, x.count(0), "33: cells that came");
        is(3, x.count(1), "33: seen");
        is(4, x.count(2), "33: of the plan");
        is(1, x.count(3), "33: of the book");
        is(5, x.count(4), "33: bytes of the text");
        is(-2, x.count(5), "33: 5");
        is(-2, x.count(-1), "33: -1");
    }

    static void tape() {
        ReversedLinks x = new ReversedLinks();
        is(-1, x.tape(6, 9, -1), "34: tape 6, ahead of the rest");
        is(-1, x.tape(-1, 0, 0), "34: tape -1");
        is(-2, x.tape(0, 5, -1), "34: sort 5, ahead of the size");
        is(-2, x.tape(0, -2, 0), "34: sort -2");
        is(-2, x.tape(0, 0, 61), "34: 61");
        is(-2, x.tape(0, 0, MAX), "34: a greatest number");
        is(-14, x.tape(0, 0, -1), "34: -1");
        is(-14, x.tape(0, 4, MIN), "34: a least number");
        is(-11, x.item(0, 0, 1), "34: nothing changed");
        is(1, x.tape(0, 4, 0), "34: a row of none");
        is(-13, x.item(0, 0, 1), "34: a row of none is there");
        is(1, x.tape(0, 2, 60), "34: 60");
        is(1, x.item(0, 59, 5), "34: the last item");
        is(5, x.read(0, 59), "34: the last item");
        is(1, x.tape(0, 2, 60), "34: anew");
        is(0, x.read(0, 59), "34: all 0");
        is(1, x.tape(0, -1, 99), "34: n does not matter");
        is(1, x.tape(1, -1, MIN), "34: n does not matter");
        is(-11, x.item(0, 0, 1), "34: it holds nothing");
        is(NO, x.read(0, 0), "36: nothing there");
    }

    static void item() {
        ReversedLinks x = new ReversedLinks();
        for (int sort = 0; sort < 5; sort++) {
            x.tape(sort, sort, 2);
        }
        long[] values = {0, 1, -1, 2, 127, 128, 256, -129, 32767, 32768, 65536, 1L << 31, -(1L << 31) - 1, 1L << 32, Long.MAX_VALUE, NO + 1};
        for (long v : values) {
            long[] due = {(byte) v, (short) v, (int) v, v, v == 0 ? 0 : 1};
            for (int sort = 0; sort < 5; sort++) {
                is(1, x.item(sort, 1, v), "35: an item");
                is(due[sort], x.read(sort, 1), "36: sort " + sort + " of " + v);
                is(0, x.read(sort, 0), "36: the item ahead");
            }
        }
        is(1, x.item(3, 0, NO), "35: a least number");
        is(-1, x.item(6, 9, 0), "35: tape 6");
        is(-1, x.item(-1, 0, 0), "35: tape -1");
        is(-11, x.item(5, 9, 0), "35: nothing there, ahead of the place");
        is(-13, x.item(0, 2, 0), "35: place 2");
        is(-13, x.item(0, -1, 0), "35: place -1");
        is(-13, x.item(0, MAX, 0), "35: a greatest place");
        is(NO, x.read(6, 0), "36: tape 6");
        is(NO, x.read(-1, 0), "36: tape -1");
        is(NO, x.read(5, 0), "36: nothing there");
        is(NO, x.read(0, 2), "36: place 2");
        is(NO, x.read(0, -1), "36: place -1");
    }

    static void shift() {
        ReversedLinks x = new ReversedLinks();
        x.tape(0, 1, 5);
        x.tape(1, 1, 3);
        x.tape(2, 2, 5);
        for (int i = 0; i < 5; i++) {
            x.item(0, i, i + 1);
        }
        is(3, x.shift(0, 2, 1, 0, 3), "37: to another one");
        for (int i = 0; i < 3; i++) {
            is(i + 3, x.read(1, i), "37: as they were");
        }
        is(4, x.shift(0, 0, 0, 1, 4), "37: to the same one, upwards");
        int[] up = {1, 1, 2, 3, 4};
        for (int i = 0; i < 5; i++) {
            is(up[i], x.read(0, i), "37: as they all were before");
        }
        is(3, x.shift(0, 2, 0, 0, 3), "37: to the same one, downwards");
        int[] down = {2, 3, 4, 3, 4};
        for (int i = 0; i < 5; i++) {
            is(down[i], x.read(0, i), "37: as they all were before");
        }
        is(0, x.shift(0, 5, 1, 3, 0), "37: none, at the ends");
        is(-1, x.shift(6, 0, 0, 0, 0), "37: tape 6");
        is(-1, x.shift(3, 0, -1, 0, 0), "37: other -1, ahead of nothing");
        is(-11, x.shift(3, 0, 0, 0, 0), "37: nothing there");
        is(-11, x.shift(0, -1, 3, 0, 0), "37: nothing there, ahead of the place");
        is(-12, x.shift(0, -1, 2, 0, 0), "37: of unlike sorts, ahead of the place");
        is(-13, x.shift(0, 0, 1, 0, -1), "37: -1 items");
        is(-13, x.shift(0, -1, 1, 0, 1), "37: from -1");
        is(-13, x.shift(0, 0, 1, -1, 1), "37: to -1");
        is(-13, x.shift(0, 3, 1, 0, 3), "37: beyond the end");
        is(-13, x.shift(0, 0, 1, 1, 3), "37: beyond the other's end");
        is(-13, x.shift(0, 6, 1, 0, 0), "37: none, beyond the end");
        is(-13, x.shift(0, 0, 1, 4, 0), "37: none, beyond the other's end");
        is(-13, x.shift(0, MAX, 1, 0, MAX), "37: greatest numbers");
        is(-13, x.shift(0, 1, 1, MAX, 1), "37: greatest numbers");
        is(2, x.read(0, 0), "37: nothing changed");
    }
}
