/** Promises 1 to 9. */
final class CellsTest extends Due {
    public static void main(String[] args) {
        aNewObject();
        cells();
        layoutsAndFields();
        followed();
        of();
        waysTo();
        fieldAndRaw();
        hold();
        tag();
        root();
        pin();
        end();
    }

    static void aNewObject() {
        ReversedLinks x = new ReversedLinks();
        for (int what = 0; what < 5; what++) {
            is(0, x.count(what), "1: count(" + what + ")");
        }
        for (int what = 0; what < 15; what++) {
            is(what == 1 || what == 2 ? -5 : 0, x.told(what), "1: told(" + what + ")");
        }
        is(-3, x.sweep(), "1: not clean");
        for (int what = 15; what < 19; what++) {
            is(-5, x.told(what), "1: root");
        }
        is(-1, x.of(0, 0), "1: no cell 0");
        is(-3, x.undo(), "1: no image");
        is(-11, x.item(5, 0, 1), "1: tapes hold nothing");
    }

    static void cells() {
        ReversedLinks x = new ReversedLinks();
        is(-1, x.cell(-1, 0, 0), "2: layout -1");
        is(-1, x.cell(7, 10, 7), "2: layout 7 ahead of the rest");
        is(-2, x.cell(ATOM, -1, 0), "2: tag -1");
        is(-2, x.cell(ATOM, 10, 0), "2: tag 10");
        is(-2, x.cell(ROW, 0, -1), "2: row of -1");
        is(-2, x.cell(ROW, 0, 7), "2: row of 7");
        is(-2, x.cell(TABLE, 0, MIN), "2: table of a least number");
        is(-2, x.cell(TABLE, 0, MAX), "2: table of a greatest number");
        is(0, x.cell(ATOM, 9, MIN), "2: n does not matter by an atom");
        is(1, x.cell(PAIR, 0, 7), "2: n does not matter by a pair");
        is(2, x.cell(BOX, 0, -1), "2: n does not matter by a box");
        is(3, x.cell(ROW, 0, 6), "2: row of 6");
        is(4, x.cell(TABLE, 0, 0), "2: table of 0");
        x.begin(0);
        is(-3, x.cell(ATOM, 0, 0), "2: a marking runs");
        is(-2, x.cell(ATOM, 10, 0), "2: tag ahead of the state");
        x.leave();
        for (int cell = 5; cell < 24; cell++) {
            is(cell, x.cell(WEAK, 1, 99), "2: the next number");
        }
        is(-4, x.cell(ATOM, 0, 0), "2: full");
        is(-2, x.cell(ROW, 0, 7), "2: n ahead of full");
        x.begin(0);
        is(-3, x.cell(ATOM, 0, 0), "2: state ahead of full");
        finish(x);
        is(24, x.sweep(), "2: all swept");
        is(-4, x.cell(ATOM, 0, 0), "2: numbers aren't given again");
    }

    static void layoutsAndFields() {
        ReversedLinks x = new ReversedLinks();
        int[] fields = {0, 2, 4, 1, 1, 4, 2};
        int[] bits = {1, 2, 3, 1, 1, 3, 2};
        for (int layout = 0; layout < 7; layout++) {
            is(layout, x.cell(layout, layout + 1, 4), "2: number");
            is(layout, x.of(layout, 0), "3: layout");
            is(layout + 1, x.of(layout, 1), "3: tag");
            is(fields[layout], x.of(layout, 2), "3: fields of layout " + layout);
            is(bits[layout], x.of(layout, 12), "3: bits of layout " + layout);
            for (int i = 0; i < fields[layout]; i++) {
                is(-5, x.field(layout, i), "4: nothing at first");
                is(-5, x.raw(layout, i), "5: nothing at first");
            }
            is(-1, x.field(layout, fields[layout]), "4: no such field");
            is(-1, x.raw(layout, fields[layout]), "5: no such field");
        }
        int[] ofRows = {1, 1, 2, 3, 3, 4, 4};
        for (int n = 0; n <= 6; n++) {
            int row = x.cell(ROW, 0, n);
            is(n, x.of(row, 2), "3: fields of a row");
            is(ofRows[n], x.of(row, 12), "3: bits of a row of " + n);
        }
    }

    /** A cell of each layout, all whose fields hold an atom each: which of these one comes to. */
    static void followed() {
        int[] due = {0, 0b11, 0b111111, 0b1, 0, 0b101010, 0b11};
        for (int layout = 0; layout < 7; layout++) {
            ReversedLinks x = new ReversedLinks();
            for (int cell = 0; cell < 6; cell++) {
                x.cell(ATOM, 0, 0);
            }
            int cell = x.cell(layout, 7, 6);
            for (int i = 0; i < 6; i++) {
                x.hold(cell, i, i);
            }
            is(due[layout] | 1 << cell, x.of(cell, 9), "3: reach of layout " + layout);
            x.tag(cell, 8);
            is((layout == HALF ? 0b1 : due[layout]) | 1 << cell, x.of(cell, 9), "3: reach, tag even, layout " + layout);
        }
    }

    static void of() {
        ReversedLinks x = built("(<1>.~)");
        is(-1, x.of(0, -1), "3: what -1");
        is(-1, x.of(0, 13), "3: what 13");
        is(-1, x.of(3, 0), "3: no such cell");
        is(-1, x.of(-1, 0), "3: cell -1");
        is(-1, x.of(MAX, 8), "3: a greatest cell");
        x.cell(ATOM, 0, 0);
        x.begin(0);
        x.pin(2, true);
        x.step(3);
        is(1, x.of(2, 3), "3: marked");
        is(0, x.of(3, 3), "3: not marked");
        is(0, x.of(0, 4), "3: count 0 as yet");
        is(1, x.of(2, 6), "3: pinned");
        is(0, x.of(1, 6), "3: not pinned");
        x.step(2);
        is(1, x.of(0, 4), "3: count 1");
        is(0, x.of(0, 5), "3: not later");
        finish(x);
        is(2, x.of(0, 4), "3: count stays when it is over");
        x.sweep();
        is(-1, x.of(3, 0), "3: a swept cell is none");
        is(0, x.of(0, 3), "3: none is marked when all is swept");
        is(2, x.of(0, 4), "3: count stays when all is swept");
        x.begin(0);
        is(2, x.of(0, 4), "3: count stays till the cell is marked");
        x.step(1);
        is(0, x.of(0, 4), "3: count 0 when marked");
        x.leave();

        ReversedLinks y = built("<<<1>>>");
        y.pin(0, true);
        y.begin(0);
        y.step(2);
        is(1, y.of(1, 5), "3: later");
        is(1, y.of(1, 3), "3: later and marked");
        is(1, y.of(0, 4), "3: count, what it holds being put off");
        y.step(5);
        is(0, y.of(1, 5), "3: later no more");
    }

    static void waysTo() {
        // 0 holds 1, 4, 4 and 5; 1 holds 2 and 3; 3 and 5 hold 6; 6 holds 8, and 2 by a field that isn't followed
        ReversedLinks x = built("[(1.<~>),2,~,<~>]");
        x.hold(0, 2, 4);
        x.cell(TABLE, 0, 2);
        x.cell(WEAK, 0, 0);
        x.cell(HALF, 2, 0);
        x.hold(3, 0, 6);
        x.hold(5, 0, 6);
        x.hold(7, 0, 6);
        x.hold(6, 1, 8);
        x.hold(6, 0, 2);
        x.hold(8, 0, 8);
        x.hold(8, 1, 7);
        is(3, x.of(6, 7), "3: holders, followed or not");
        is(2, x.of(4, 7), "3: holders, twice by one");
        is(0, x.of(0, 7), "3: a root is no holder");
        is(2, x.of(8, 7), "3: holders, itself too");
        is(0, x.of(0, 8), "3: far of what a root holds");
        is(2, x.of(6, 8), "3: far by the shortest way");
        is(3, x.of(8, 8), "3: far");
        is(-5, x.of(7, 8), "3: not reached: by a half of an even tag");
        is(0b101111111, x.of(0, 9), "3: reach");
        is(0b101000000, x.of(6, 9), "3: reach of a table");
        is(0b010000000, x.of(7, 9), "3: reach of a weak one");
        is(0b101000000, x.of(6, 10), "3: keeps");
        is(0b000001000, x.of(3, 10), "3: keeps but itself nothing: the table is held otherwise");
        is(0b000001110, x.of(1, 10), "3: keeps");
        is(0b101111111, x.of(0, 10), "3: what a root holds keeps");
        is(0, x.of(7, 10), "3: keeps nothing, not being reached");
        is(0, x.of(1, 11), "3: cut");
        is(0, x.of(2, 11), "3: the first cut, further up");
        is(-5, x.of(4, 11), "3: no cut: held twice");
        is(61, x.of(8, 11), "3: cut");
        is(-5, x.of(6, 11), "3: no cut: two ways");
        is(-5, x.of(0, 11), "3: no cut: a root holds it");
        is(-5, x.of(7, 11), "3: no cut: it isn't reached");
        x.root(3, 7);
        is(0, x.of(7, 8), "3: far, by another root");
        x.hold(5, 0, -1);
        is(0, x.of(6, 11), "3: one way is left");
        x.root(2, 1);
        is(11, x.of(6, 11), "3: the first cut of more, by cells and numbers");
        is(10, x.of(2, 11), "3: the first cut by the other field");
        x.root(1, 6);
        is(0, x.of(6, 8), "3: far, held by a root as well");
        is(0b000001000, x.of(3, 10), "3: keeps");
        is(-5, x.of(6, 11), "3: no cut: held by a root as well");
        is(0b101000000, x.of(6, 10), "3: keeps, were no root to hold it");

        // the same while fields are turned
        ReversedLinks y = chain(4);
        y.begin(0);
        y.step(4);
        is(-5, y.raw(0, 0), "5: turned");
        is(0b1110, y.of(1, 9), "3: reach while fields are turned");
        is(3, y.of(3, 8), "3: far while fields are turned");
        is(1, y.of(3, 7), "3: holders while fields are turned");
        is(0, y.of(0, 7), "3: a turned field isn't counted by what it holds meanwhile");
        is(0b1100, y.of(2, 10), "3: keeps while fields are turned");
        is(0, y.of(2, 11), "3: cut while fields are turned");
    }

    static void fieldAndRaw() {
        ReversedLinks x = chain(5);
        is(-1, x.field(5, 0), "4: no such cell");
        is(-1, x.field(0, 1), "4: no such field");
        is(-1, x.field(0, -1), "4: field -1");
        is(-1, x.field(-5, 0), "4: cell -5");
        is(-1, x.raw(MIN, 0), "5: a least cell");
        is(-1, x.raw(0, MAX), "5: a greatest field");
        is(-1, x.raw(0, -1), "5: field -1");
        x.begin(1);
        x.step(5);
        int[] raw = {1, -5, 1, 2, -5};
        for (int cell = 0; cell < 5; cell++) {
            is(cell < 4 ? cell + 1 : -5, x.field(cell, 0), "4: field as it is when none is turned");
            is(raw[cell], x.raw(cell, 0), "5: field of " + cell + " as it is turned");
        }
        x.step(2);
        is(4, x.raw(3, 0), "5: turned back");
        is(1, x.raw(2, 0), "5: turned still");
        x.leave();
        for (int cell = 0; cell < 4; cell++) {
            is(cell + 1, x.raw(cell, 0), "5: broken off, all are turned back");
        }
        // only the field by the count is turned
        ReversedLinks y = built("[1,<2>,3]");
        y.begin(0);
        y.step(5);
        is(1, y.of(0, 4), "5: count");
        is(1, y.raw(0, 0), "5: the field ahead of the turned one");
        is(-5, y.raw(0, 1), "5: the turned one");
        is(4, y.raw(0, 2), "5: the field behind the turned one");
        is(0, y.raw(2, 0), "5: the turned one further down");
    }

    static void hold() {
        ReversedLinks x = built("(1.2)");
        is(1, x.hold(0, 0, 2), "6: what it held");
        is(2, x.hold(0, 0, -1), "6: what it held");
        is(-5, x.hold(0, 0, 0), "6: it held nothing");
        is(0, x.field(0, 0), "6: holds itself");
        is(-1, x.hold(0, 2, 0), "6: no such field");
        is(-1, x.hold(0, -1, 0), "6: field -1");
        is(-1, x.hold(1, 0, 0), "6: an atom has none");
        is(-1, x.hold(3, 0, 0), "6: no such cell");
        is(-1, x.hold(0, 0, 3), "6: no such other");
        is(-1, x.hold(0, 0, -5), "6: other -5");
        is(-1, x.hold(0, 0, MIN), "6: a least other");
        is(0, x.field(0, 0), "6: nothing changed");
        x.begin(0);
        is(-3, x.hold(0, 0, 1), "6: a marking runs");
        is(-1, x.hold(0, 2, 1), "6: field ahead of the state");
        x.leave();
        is(2, x.hold(0, 1, 2), "6: it held the same");
    }

    static void tag() {
        ReversedLinks x = built("7");
        is(7, x.tag(0, 9), "7: what it was");
        is(9, x.tag(0, 0), "7: what it was");
        is(0, x.of(0, 1), "7: the tag");
        is(-1, x.tag(1, 10), "7: no such cell, ahead of the number");
        is(-1, x.tag(-1, 0), "7: cell -1");
        is(-2, x.tag(0, 10), "7: tag 10");
        is(-2, x.tag(0, -1), "7: tag -1");
        x.begin(0);
        is(-3, x.tag(0, 1), "7: a marking runs");
        is(-2, x.tag(0, 10), "7: number ahead of the state");
        is(0, x.of(0, 1), "7: nothing changed");
    }

    static void root() {
        ReversedLinks x = built("(1.2)");
        is(-5, x.root(3, 1), "8: it held nothing");
        is(1, x.root(3, 2), "8: what it held");
        is(2, x.root(3, -1), "8: what it held");
        is(-5, x.told(18), "8: holds nothing");
        is(0, x.told(15), "8: root 0");
        is(-1, x.root(4, 0), "8: root 4");
        is(-1, x.root(-1, 0), "8: root -1");
        is(-1, x.root(0, 3), "8: no such cell");
        is(-1, x.root(0, -5), "8: cell -5");
        x.begin(0);
        is(-3, x.root(0, 1), "8: a marking runs");
        is(-1, x.root(0, 3), "8: cell ahead of the state");
        is(0, x.told(15), "8: nothing changed");
    }

    static void pin() {
        ReversedLinks x = chain(3);
        is(0, x.pin(0, true), "9: it wasn't");
        is(1, x.pin(0, true), "9: it was");
        is(1, x.pin(0, false), "9: it was");
        is(0, x.of(0, 6), "9: no more");
        is(-1, x.pin(3, true), "9: no such cell");
        is(-1, x.pin(-1, true), "9: cell -1");
        x.begin(1);
        x.step(3);
        is(-3, x.pin(1, true), "9: it has a turned field");
        is(-3, x.pin(1, false), "9: it has a turned field, and wasn't pinned");
        is(0, x.pin(0, true), "9: on the stack");
        is(0, x.pin(2, true), "9: the one it is at");
        finish(x);
        is(0, x.pin(1, true), "9: turned back");
        is(1, x.told(14), "9: clean still");
    }
}
