/** Promises 12 to 19. */
final class MarkingTest extends Due {
    public static void main(String[] args) {
        begin();
        walk();
        walkOffPinned();
        walkRootsAndFields();
        step();
        leave();
        clean();
        sweep();
        told();
        on();
        need();
        least();
        end();
    }

    static void begin() {
        ReversedLinks x = new ReversedLinks();
        is(-2, x.begin(-1), "12: limit -1");
        is(-2, x.begin(9), "12: limit 9");
        is(0, x.begin(8), "12: none are there");
        is(-3, x.begin(0), "12: one runs");
        is(-2, x.begin(9), "12: limit ahead of the state");
        x.leave();
        build(x, "(1.2)", 0);
        x.cell(ATOM, 0, 0);
        is(4, x.begin(0), "12: how many are there");
        finish(x);
        is(7, x.told(8), "12: marked");
        x.sweep();
        is(3, x.begin(0), "12: how many are there, one being swept");
        is(0, x.told(8), "12: none is marked");
        for (int what = 3; what <= 9; what++) {
            is(0, x.told(what), "12: nothing of the one before: " + what);
        }
    }

    /** A chain of a box, a box, a box and an atom by a limit of 1, step by step: AT, BACK, STACK, TURNED, MARKED. */
    static void walk() {
        int[][] due = {{0, -5, 0, 0, 1}, {1, -5, 1, 0, 3}, {2, 1, 1, 1, 7}, {3, 2, 1, 2, 15}, {2, 1, 1, 2, 15}, {1, -5, 1, 2, 15},
            {0, -5, 0, 2, 15}, {-5, -5, 0, 2, 15}, {-5, -5, 0, 2, 15}, {-5, -5, 0, 2, 15}, {-5, -5, 0, 2, 15}, {-5, -5, 0, 2, 15}};
        ReversedLinks x = built("<<<1>>>");
        x.begin(1);
        for (int n = 0; n < due.length; n++) {
            is(due.length - n, x.told(11), "16: steps yet");
            is(1, x.told(0), "16: it runs");
            is(1, x.step(1), "13: one step");
            is(n + 1, x.told(3), "16: steps");
            is(due[n][0], x.told(1), "16: at, behind " + (n + 1));
            is(due[n][1], x.told(2), "16: back, behind " + (n + 1));
            is(due[n][2], x.told(12), "16: the stack, behind " + (n + 1));
            is(due[n][3], x.told(4), "16: turned, behind " + (n + 1));
            is(due[n][4], x.told(8), "16: marked, behind " + (n + 1));
        }
        is(0, x.told(0), "16: it is over");
        is(1, x.told(14), "16: it is clean");
        is(1, x.told(5), "16: pushed");
        is(0, x.told(6), "16: off");
        is(3, x.told(7), "16: deepest");
        is(0, x.told(11), "16: no steps yet");
    }

    /** The same chain by no stack, the second box being pinned: AT, BACK, LATER, OFF, MARKED. */
    static void walkOffPinned() {
        int[][] due = {{0, -5, 0, 0, 1}, {1, 0, 0, 0, 3}, {1, 0, 4, 1, 7}, {0, -5, 4, 1, 7}, {-5, -5, 4, 1, 7}, {-5, -5, 4, 1, 7},
            {-5, -5, 4, 1, 7}, {-5, -5, 4, 1, 7}, {2, -5, 0, 1, 7}, {3, 2, 0, 1, 15}, {2, -5, 0, 1, 15}, {-5, -5, 0, 1, 15}, {-5, -5, 0, 1, 15}};
        ReversedLinks x = built("<<<1>>>");
        x.pin(1, true);
        x.begin(0);
        for (int n = 0; n < due.length; n++) {
            is(1, x.step(1), "13: one step");
            is(due[n][0], x.told(1), "16: at, behind " + (n + 1));
            is(due[n][1], x.told(2), "16: back, behind " + (n + 1));
            is(due[n][2], x.told(9), "16: later, behind " + (n + 1));
            is(due[n][3], x.told(6), "16: off, behind " + (n + 1));
            is(due[n][4], x.told(8), "16: marked, behind " + (n + 1));
        }
        is(0, x.told(0), "16: it is over");
        is(2, x.told(4), "16: turned");
        is(1, x.told(7), "16: deepest");

        // later ones come by number, not as they were put off; no root is gone into twice
        ReversedLinks y = built("[<1>,<2>,<3>]");
        y.hold(0, 0, 5);
        y.hold(0, 2, 1);
        y.root(1, 3);
        y.root(2, 1);
        y.pin(0, true);
        y.begin(0);
        is(8, y.step(8), "13: eight steps");
        is(-5, y.told(1), "16: at none, all roots being marked");
        is(0b101010, y.told(9), "16: later");
        y.step(1);
        is(1, y.told(1), "16: the first one by number");
        is(0b101000, y.told(9), "16: later no more");
    }

    static void walkRootsAndFields() {
        ReversedLinks x = new ReversedLinks();
        build(x, "1", 1);
        build(x, "[a,A,~,3]", 3);
        x.begin(0);
        x.step(1);
        is(-5, x.told(1), "13: root 0 holds nothing");
        x.step(1);
        is(0, x.told(1), "13: root 1");
        x.step(3);
        is(1, x.told(1), "13: root 3");
        x.step(3);
        is(1, x.told(1), "13: marked ones and nothing are passed");
        is(3, x.of(1, 4), "13: passed");
        x.step(1);
        is(2, x.told(1), "13: the fourth field");

        // a table's fields by even numbers, a weak one's and a half's second field are passed
        ReversedLinks y = new ReversedLinks();
        y.cell(TABLE, 0, 3);
        y.cell(WEAK, 0, 0);
        y.cell(HALF, 2, 0);
        y.cell(HALF, 3, 0);
        for (int i = 0; i < 3; i++) {
            y.cell(ATOM, 0, 0);
            y.hold(0, i, 4 + i);
        }
        y.hold(1, 0, 4);
        y.hold(2, 0, 1);
        y.hold(2, 1, 4);
        y.hold(3, 0, 0);
        y.hold(3, 1, 2);
        y.root(0, 3);
        y.begin(0);
        finish(y);
        is(0b0101111, y.told(8), "13: followed ones alone");
    }

    static void step() {
        ReversedLinks x = chain(24);
        is(-2, x.step(-1), "13: -1, ahead of the state");
        is(-2, x.step(100), "13: 100");
        is(-3, x.step(0), "13: none runs");
        x.begin(0);
        is(0, x.step(0), "13: none");
        is(-2, x.step(100), "13: 100, one running");
        is(0, x.told(3), "13: nothing changed");
        is(24, x.step(24), "13: as many");
        is(23, x.told(1), "13: at the last");
        is(29, x.step(99), "13: fewer, it being over");
        is(-3, x.step(1), "13: it is over");
        is(53, x.told(3), "16: steps");
    }

    static void leave() {
        ReversedLinks x = chain(6);
        is(-3, x.leave(), "14: none runs");
        x.pin(4, true);
        x.begin(2);
        x.step(6);
        is(2, x.leave(), "14: how many were turned");
        is(-3, x.leave(), "14: none runs");
        is(0, x.told(0), "14: none runs");
        is(-5, x.told(1), "14: at none");
        is(-5, x.told(2), "14: back none");
        is(0, x.told(12), "14: no stack");
        is(0, x.told(11), "14: no steps yet");
        is(0, x.told(14), "14: not clean");
        is(6, x.told(3), "14: steps stay");
        is(2, x.told(4), "14: turned stays");
        is(2, x.told(5), "14: pushed stays");
        is(1, x.told(6), "14: off stays");
        is(4, x.told(7), "14: deepest stays");
        is(63, x.told(8), "14: marked ones stay");
        is(32, x.told(9), "14: later ones stay");
        is(1, x.of(4, 4), "14: counts stay");
        is(0, x.on(3, 3), "14: none is turned");
        is(0, x.pin(3, true), "14: it has no turned field");
        for (int cell = 0; cell < 5; cell++) {
            is(cell + 1, x.raw(cell, 0), "14: fields hold what they held");
        }
        is(-3, x.sweep(), "14: not clean");
        is(1, x.hold(0, 0, -1), "14: none runs");
        x.begin(0);
        is(0, x.told(9), "12: none is later");
        is(0, x.told(12), "12: no stack");
    }

    static void clean() {
        for (int k = 0; k < 11; k++) {
            ReversedLinks x = chain(2);
            is(0, x.told(14), "16: not clean at first");
            x.begin(3);
            is(0, x.told(14), "16: not clean while it runs");
            finish(x);
            is(1, x.told(14), "16: clean");
            switch (k) {
                case 0: x.begin(0); break;
                case 1: x.cell(ATOM, 0, 0); break;
                case 2: x.hold(0, 0, 1); break;
                case 3: x.root(0, 0); break;
                case 4: x.tag(0, 0); break;
                case 5: x.sweep(); break;
                case 6: x.pin(0, true); break;
                case 7: x.hold(0, 1, 1); break;
                case 8: x.see(0, 0, true); x.plan(0, 0); x.book(0, 0, 1); x.tape(0, 0, 1); break;
                case 9: x.fits(0); x.can(0, 0, 0); x.need(0, 0); x.least(0); x.ends(); break;
                default: x.begin(9); x.step(1); x.leave(); x.cell(ATOM, 10, 0); x.root(0, 2); x.tag(0, 10); break;
            }
            is(k < 6 ? 0 : 1, x.told(14), "16: clean, behind what is told, case " + k);
            is(k < 6 ? -3 : 0, x.sweep(), "15: case " + k);
        }
    }

    static void sweep() {
        ReversedLinks x = built("(1.<2>)");
        is(-3, x.sweep(), "15: nothing was marked");
        x.cell(WEAK, 5, 0);
        x.cell(BOX, 0, 0);
        x.cell(ATOM, 0, 0);
        x.hold(2, 0, 4);
        x.hold(4, 0, 6);
        x.hold(5, 0, 0);
        x.begin(0);
        is(-3, x.sweep(), "15: it runs");
        finish(x);
        is(0b0010111, x.told(8), "15: marked");
        is(3, x.sweep(), "15: how many are missing that weren't");
        is(0b0010111, x.told(13), "16: which are there");
        is(0, x.told(8), "15: none is marked");
        is(-5, x.field(4, 0), "15: what held a missing one holds nothing");
        is(4, x.field(2, 0), "15: others stay");
        is(0, x.of(0, 7), "15: a missing cell holds nothing");
        is(-1, x.of(3, 0), "15: missing");
        is(-1, x.hold(5, 0, 0), "15: missing");
        is(-1, x.hold(2, 0, 3), "15: missing");
        is(-1, x.root(0, 6), "15: missing");
        is(-1, x.pin(3, true), "15: missing");
        is(-1, x.tag(3, 1), "15: missing");
        is(-1, x.field(5, 0), "15: missing");
        is(-1, x.raw(5, 0), "15: missing");
        is(7, x.count(0), "15: those that came");
        is(7, x.cell(ATOM, 0, 0), "15: the next number");
        is(-3, x.sweep(), "15: not clean");
        x.begin(8);
        finish(x);
        is(1, x.sweep(), "15: one more");
        x.begin(8);
        finish(x);
        is(0, x.sweep(), "15: no more");
        is(-3, x.sweep(), "15: not clean, though none went");
    }

    static void told() {
        ReversedLinks x = new ReversedLinks();
        is(-1, x.told(-1), "16: -1");
        is(-1, x.told(19), "16: 19");
        is(-1, x.told(MIN), "16: a least number");
        build(x, "(1.2)", 1);
        build(x, "<b>", 3);
        x.cell(ATOM, 0, 0);
        is(-5, x.told(15), "16: root 0");
        is(0, x.told(16), "16: root 1");
        is(-5, x.told(17), "16: root 2");
        is(3, x.told(18), "16: root 3");
        is(0b1111, x.told(10), "16: reached");
        is(0b11111, x.told(13), "16: there");
        x.begin(0);
        is(12, x.told(11), "16: steps yet");
        x.step(3);
        is(-5, x.raw(0, 0), "16: turned");
        is(0b1111, x.told(10), "16: reached, a field being turned");
    }

    static void on() {
        ReversedLinks x = built("<<<1>>>");
        is(-1, x.on(-1, -1), "17: what, ahead of n");
        is(-1, x.on(0, 5), "17: what 5");
        is(-2, x.on(-1, 0), "17: n -1");
        is(-2, x.on(401, 0), "17: n 401");
        is(-5, x.on(400, 0), "17: none runs");
        is(0, x.on(400, 4), "17: none runs");
        is(0, x.on(400, 2), "17: none runs");
        x.begin(1);
        x.step(2);
        int[][] due = {{1, -5, 3, 0, 2}, {2, 1, 7, 1, 3}, {3, 2, 15, 2, 4}, {2, 1, 15, 1, 5}, {1, -5, 15, 0, 6}, {0, -5, 15, 0, 7}};
        for (int n = 0; n < due.length; n++) {
            for (int what = 0; what < 5; what++) {
                is(due[n][what], x.on(n, what), "17: on " + n + " what " + what);
            }
        }
        is(12, x.on(10, 4), "17: over");
        is(12, x.on(400, 4), "17: over ahead of that");
        is(-5, x.on(400, 0), "17: over ahead of that");
        is(15, x.on(400, 2), "17: over ahead of that");
        is(2, x.told(3), "17: nothing changed");
        is(3, x.told(8), "17: nothing changed");
        is(1, x.told(1), "17: nothing changed");
        x.step(2);
        x.leave();
        is(4, x.on(5, 4), "17: as now");
        is(15, x.on(5, 2), "17: as now");
        is(0, x.on(5, 3), "17: as now");
    }

    static void need() {
        ReversedLinks x = built("<<<1>>>");
        int[][] due = {{12, 3, 0, 0, 3}, {12, 2, 1, 0, 3}, {12, 1, 2, 0, 3}, {12, 0, 3, 0, 3}, {12, 0, 3, 0, 3}};
        int[][] duePinned = {{13, 2, 0, 1, 1}, {13, 0, 2, 1, 1}, {12, 1, 2, 0, 3}, {12, 0, 3, 0, 3}, {12, 0, 3, 0, 3}};
        for (int limit = 0; limit < due.length; limit++) {
            for (int what = 0; what < 5; what++) {
                x.pin(1, false);
                is(due[limit][what], x.need(limit, what), "18: limit " + limit + " what " + what);
                x.pin(1, true);
                is(duePinned[limit][what], x.need(limit, what), "18: pinned, limit " + limit + " what " + what);
            }
        }
        is(-1, x.need(9, 5), "18: what, ahead of the limit");
        is(-1, x.need(0, -1), "18: what -1");
        is(-2, x.need(9, 0), "18: limit 9");
        is(-2, x.need(-1, 0), "18: limit -1");
        is(0, x.told(3), "18: nothing changed");
        is(0, x.told(8), "18: nothing changed");
        x.begin(0);
        is(-3, x.need(0, 0), "18: a marking runs");
        is(-2, x.need(9, 0), "18: limit ahead of the state");
        finish(x);
        is(15, x.told(8), "18: marked");
        is(13, x.need(0, 0), "18: as if none were marked");
        is(1, x.told(14), "18: clean still");
        is(5, new ReversedLinks().need(0, 0), "18: no cells");
    }

    static void least() {
        ReversedLinks x = built("<<<1>>>");
        is(3, x.least(0), "19: by turned");
        is(0, x.least(1), "19: by off");
        x.pin(1, true);
        is(1, x.least(0), "19: by turned, pinned");
        is(2, x.least(1), "19: by off, pinned");
        is(-1, x.least(-1), "19: what -1");
        is(-1, x.least(2), "19: what 2");
        ReversedLinks y = chain(10);
        is(-5, y.least(0), "19: none by turned");
        y.pin(8, true);
        is(-5, y.least(1), "19: none by off");
        y.pin(8, false);
        y.hold(8, 0, -1);
        is(8, y.least(0), "19: the last by turned");
        y.hold(8, 0, 9);
        y.pin(7, true);
        is(8, y.least(1), "19: the last by off");
        y.begin(0);
        is(-3, y.least(0), "19: a marking runs");
        is(-1, y.least(2), "19: what ahead of the state");
    }
}
