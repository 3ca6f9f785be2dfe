/** Promises 25 to 28. */
final class PlansBooksTest extends Due {
    public static void main(String[] args) {
        plan();
        ends();
        book();
        looked();
        end();
    }

    static void plan() {
        ReversedLinks x = built("[1,(2.3)]");
        is(-1, x.plan(3, 0), "25: what 3");
        is(-1, x.plan(-2, 0), "25: what -2");
        is(-1, x.plan(0, -1), "25: field -1");
        is(-1, x.plan(0, -10), "25: field -10");
        is(-1, x.plan(0, 2), "25: field 2 of cell 0");
        is(-1, x.plan(0, 10), "25: an atom has none");
        is(-1, x.plan(0, 50), "25: no such cell");
        is(-1, x.plan(0, MAX), "25: a greatest number");
        is(-1, x.plan(0, MIN), "25: a least number");
        is(-1, x.plan(1, 4), "25: root 4");
        is(-1, x.plan(1, -1), "25: root -1");
        is(-1, x.plan(2, 5), "25: no such cell");
        is(-1, x.plan(2, -1), "25: cell -1");
        is(0, x.count(2), "25: none came");
        is(1, x.plan(0, 0), "25: a field");
        is(2, x.plan(0, 21), "25: a field");
        is(3, x.plan(1, 3), "25: a root that holds nothing");
        is(4, x.plan(2, 4), "25: a tag");
        x.begin(0);
        for (int n = 5; n <= 10; n++) {
            is(n, x.plan(0, 0), "25: the same again, while a marking runs");
        }
        is(-4, x.plan(0, 0), "25: full");
        is(-1, x.plan(0, 2), "25: n ahead of full");
        is(0, x.plan(-1, 99), "25: it is empty then");
        is(0, x.count(2), "25: it is empty");
    }

    static void ends() {
        ReversedLinks x = built("[1,(2.3)]");
        x.cell(HALF, 3, 0);
        x.hold(5, 1, 2);
        x.root(1, 5);
        is(63, x.ends(), "26: nothing goes");
        x.plan(0, 0);
        is(61, x.ends(), "26: a field");
        x.plan(1, 0);
        is(60, x.ends(), "26: a root");
        x.plan(2, 5);
        is(32, x.ends(), "26: a tag");
        x.plan(1, 1);
        is(0, x.ends(), "26: all of it");
        is(63, x.told(10), "26: nothing changed");
        x.plan(-1, 0);
        x.plan(0, 1);
        is(63, x.ends(), "26: another way is left");
        x.plan(0, 21);
        is(47, x.ends(), "26: a field further down");
        x.begin(0);
        x.step(4);
        is(47, x.ends(), "26: while fields are turned");
        x.leave();

        // rows of cells that are missing do nothing
        ReversedLinks y = built("<1>");
        y.cell(BOX, 0, 0);
        y.cell(HALF, 1, 0);
        y.hold(2, 0, 1);
        y.plan(0, 20);
        y.plan(2, 3);
        y.plan(0, 0);
        y.begin(0);
        finish(y);
        is(2, y.sweep(), "26: two go");
        is(3, y.count(2), "26: their rows stay");
        is(1, y.ends(), "26: their rows do nothing");
        is(-1, y.plan(0, 20), "25: missing");
        is(-1, y.plan(2, 3), "25: missing");
    }

    static void book() {
        ReversedLinks x = built("(1.2)");
        is(-1, x.book(3, 0, 0), "27: no such cell");
        is(-1, x.book(-2, 0, 0), "27: cell -2");
        is(-1, x.book(0, 2, 0), "27: no such field");
        is(-1, x.book(0, -1, 0), "27: field -1");
        is(-1, x.book(1, 0, 0), "27: an atom has none");
        is(-1, x.book(0, 0, 3), "27: no such other");
        is(-1, x.book(0, 0, -5), "27: other -5");
        is(1, x.book(0, 0, 1), "27: one");
        is(2, x.book(0, 1, -1), "27: two");
        x.begin(0);
        for (int n = 3; n <= 8; n++) {
            is(n, x.book(0, 0, 1), "27: the same again, while a marking runs");
        }
        is(-4, x.book(0, 0, 1), "27: full");
        is(-1, x.book(0, 2, 1), "27: field ahead of full");
        is(0, x.book(-1, 99, 99), "27: it is empty then");
        is(0, x.count(3), "27: it is empty");
    }

    static void looked() {
        ReversedLinks x = built("(1.2)");
        is(-5, x.looked(), "28: no rows");
        x.book(0, 0, 1);
        is(-5, x.looked(), "28: it is so");
        x.book(0, 1, -1);
        is(1, x.looked(), "28: it is otherwise");
        x.hold(0, 1, -1);
        is(-5, x.looked(), "28: it is so now");
        x.hold(0, 0, 2);
        is(0, x.looked(), "28: the first of them");
        x.hold(0, 1, 1);
        is(0, x.looked(), "28: the first of more");

        ReversedLinks y = chain(4);
        y.book(0, 0, 1);
        y.book(1, 0, 2);
        y.book(2, 0, 3);
        y.begin(0);
        y.step(4);
        is(0, y.raw(1, 0), "28: turned");
        is(-5, y.looked(), "28: as they are when none is turned");
        finish(y);

        // a missing cell is otherwise; what held one holds nothing
        ReversedLinks z = built("<~>");
        z.cell(WEAK, 0, 0);
        z.cell(BOX, 0, 0);
        z.hold(0, 0, 1);
        z.hold(1, 0, 2);
        z.book(0, 0, 1);
        z.book(1, 0, 2);
        z.book(2, 0, -1);
        is(-5, z.looked(), "28: all is so");
        z.begin(0);
        finish(z);
        is(1, z.sweep(), "28: one goes");
        is(1, z.looked(), "28: it holds nothing now");
        z.book(-1, 0, 0);
        z.book(1, 0, -1);
        is(-5, z.looked(), "28: it holds nothing now");
        ReversedLinks w = built("1");
        w.cell(BOX, 0, 0);
        w.book(1, 0, -1);
        w.begin(0);
        finish(w);
        is(-5, w.looked(), "28: it is so");
        w.sweep();
        is(0, w.looked(), "28: a missing cell is otherwise, though it held nothing");
    }
}
