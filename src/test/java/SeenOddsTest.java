/** Promises 20 to 24. */
final class SeenOddsTest extends Due {
    public static void main(String[] args) {
        see();
        fits();
        can();
        missing();
        odds();
        mean();
        end();
    }

    static void see() {
        ReversedLinks x = built("1");
        is(-1, x.see(1, 41, true), "20: no such cell, ahead of n");
        is(-1, x.see(-2, 0, true), "20: cell -2");
        is(-2, x.see(0, -1, true), "20: n -1");
        is(-2, x.see(0, 41, true), "20: n 41");
        is(1, x.see(0, 0, true), "20: one");
        is(2, x.see(0, 40, false), "20: two");
        x.begin(0);
        is(3, x.see(0, 1, true), "20: while a marking runs");
        is(4, x.see(0, 1, true), "20: the same again");
        is(5, x.see(0, 1, true), "20: five");
        is(-4, x.see(0, 1, true), "20: full");
        is(-2, x.see(0, 41, true), "20: n ahead of full");
        is(5, x.count(1), "20: five");
        is(0, x.see(-1, 99, true), "20: none then, whatever the rest is");
        is(0, x.count(1), "20: none");
    }

    static void fits() {
        ReversedLinks x = built("<<<1>>>");
        is(15, x.fits(0), "21: nothing is seen");
        x.see(1, 2, true);
        is(3, x.fits(0), "21: marked behind two");
        x.see(1, 1, false);
        is(1, x.fits(8), "21: not marked behind one");
        x.see(-1, 0, true);
        x.see(3, 40, true);
        is(15, x.fits(3), "21: marked when it is over");
        x.see(0, 40, false);
        is(14, x.fits(3), "21: not marked when it is over");
        x.see(2, 0, true);
        is(0, x.fits(3), "21: none is marked behind no steps");
        x.see(-1, 0, true);
        x.see(3, 0, false);
        is(15, x.fits(3), "21: none is marked behind no steps");
        is(-2, x.fits(-1), "21: limit -1");
        is(-2, x.fits(9), "21: limit 9");
        x.begin(0);
        is(-3, x.fits(0), "21: a marking runs");
        is(-2, x.fits(9), "21: limit ahead of the state");
        x.leave();
        is(0, x.told(15), "21: nothing changed");

        // the limit tells: a pinned one puts off what the stack doesn't keep the way for
        ReversedLinks y = built("[<1>,2]");
        y.pin(0, true);
        y.see(2, 3, true);
        is(0b00010, y.fits(0) & 0b00011, "21: put off");
        is(0b00011, y.fits(1) & 0b00011, "21: gone into at once");
        // other roots stay as they are
        ReversedLinks z = new ReversedLinks();
        build(z, "1", 1);
        build(z, "2", 0);
        build(z, "3", 0);
        z.see(0, 40, true);
        z.see(1, 40, false);
        is(0b101, z.fits(0), "21: root 1 is held still, root 0 is not");
    }

    static void can() {
        ReversedLinks x = new ReversedLinks();
        x.cell(HALF, 1, 0);
        x.cell(ATOM, 0, 0);
        x.cell(ATOM, 0, 0);
        x.hold(0, 0, 1);
        x.hold(0, 1, 2);
        x.root(0, 0);
        is(10, x.can(0, 0, 0), "22: nothing is seen");
        is(0, x.can(0, 0, 1), "22: nothing is seen");
        x.see(2, 4, true);
        is(5, x.can(0, 0, 0), "22: odd ones");
        is(1, x.can(0, 0, 1), "22: the least odd one");
        is(10, x.can(1, 0, 0), "22: another one's tag");
        is(0, x.can(1, 0, 1), "22: another one's tag");
        x.tag(0, 2);
        is(5, x.can(0, 0, 0), "22: odd ones");
        is(0, x.can(1, 0, 0), "22: none");
        is(-5, x.can(1, 0, 1), "22: none");
        x.see(-1, 0, true);
        x.see(2, 4, false);
        is(5, x.can(0, 8, 0), "22: even ones");
        is(0, x.can(0, 8, 1), "22: the least even one");
        is(2, x.of(0, 1), "22: nothing changed");
        x.see(2, 3, true);
        is(0, x.can(0, 8, 0), "22: none");
        is(-5, x.can(0, 8, 1), "22: none");
        is(-1, x.can(3, 9, 0), "22: no such cell, ahead of the limit");
        is(-1, x.can(-1, 0, 0), "22: cell -1");
        is(-1, x.can(0, 9, 2), "22: what 2, ahead of the limit");
        is(-1, x.can(0, 0, -1), "22: what -1");
        is(-2, x.can(0, 9, 0), "22: limit 9");
        is(-2, x.can(0, -1, 0), "22: limit -1");
        x.begin(0);
        is(-3, x.can(0, 0, 0), "22: a marking runs");
        is(-2, x.can(0, 9, 0), "22: limit ahead of the state");

        ReversedLinks y = built("<<1>>");
        y.pin(0, true);
        y.see(2, 3, true);
        is(0, y.can(0, 0, 0), "22: the limit tells");
        is(10, y.can(0, 1, 0), "22: the limit tells");
    }

    /** What is seen of a cell stays when it is swept: it isn't marked. */
    static void missing() {
        ReversedLinks x = built("1");
        x.cell(ATOM, 0, 0);
        x.see(1, 40, false);
        x.begin(0);
        finish(x);
        x.sweep();
        is(1, x.count(1), "20: it stays");
        is(1, x.fits(0), "21: a missing one isn't marked, and is none of those");
        is(10, x.can(0, 0, 0), "22: a missing one isn't marked");
        is(-1, x.see(1, 0, true), "20: it is missing");
        is(-1, x.can(1, 0, 0), "22: it is missing");
    }

    static void odds() {
        ReversedLinks x = built("[(1.<~>),2]");
        is(1, x.odds(0, 0), "23: held by a root");
        is(1, x.odds(0, 1), "23: held by a root");
        is(3, x.odds(1, 0), "23: three of four");
        is(4, x.odds(1, 1), "23: three of four");
        is(1, x.odds(2, 0), "23: two of four, in lowest terms");
        is(2, x.odds(2, 1), "23: two of four, in lowest terms");
        x.cell(WEAK, 0, 0);
        x.hold(5, 0, 4);
        is(4, x.odds(1, 1), "23: a field that isn't followed is none of these");
        is(0, x.odds(5, 0), "23: not reached");
        is(1, x.odds(5, 1), "23: not reached, in lowest terms");
        x.cell(BOX, 0, 0);
        x.hold(6, 0, 6);
        is(4, x.odds(1, 0), "23: fields of cells that aren't reached are some of these");
        is(5, x.odds(1, 1), "23: fields of cells that aren't reached are some of these");
        x.hold(3, 0, 4);
        is(1, x.odds(4, 0), "23: two ways");
        is(1, x.odds(4, 1), "23: two ways");
        is(NO, x.odds(7, 0), "23: no such cell");
        is(NO, x.odds(-1, 0), "23: cell -1");
        is(NO, x.odds(0, 2), "23: part 2");
        is(NO, x.odds(0, -1), "23: part -1");
        is(NO, built("1").odds(0, 0), "23: no such fields");
        is(NO, built("[~]").odds(0, 1), "23: no such fields");
        x.begin(0);
        x.step(3);
        is(2, x.on(0, 3), "17: two fields are turned");
        is(2, x.odds(2, 0), "23: four of six while fields are turned");
        is(3, x.odds(2, 1), "23: four of six while fields are turned");
    }

    static void mean() {
        ReversedLinks x = new ReversedLinks();
        is(NO, x.mean(0), "24: none are reached");
        build(x, "(1.<2>)", 0);
        is(1, x.mean(0), "24: four of four");
        is(1, x.mean(1), "24: four of four");
        x.hold(2, 0, -1);
        is(2, x.mean(0), "24: two of three");
        is(3, x.mean(1), "24: two of three");
        x.root(1, 1);
        is(1, x.mean(0), "24: one of three");
        x.hold(2, 0, 0);
        x.root(0, 2);
        is(1, x.mean(0), "24: one of three, the first being the far one");
        is(3, x.mean(1), "24: one of three, the first being the far one");
        x.root(0, 1);
        is(0, x.mean(0), "24: none of one");
        is(1, x.mean(1), "24: none of one");
        is(NO, x.mean(2), "24: part 2");
        is(NO, x.mean(-1), "24: part -1");
        x.root(0, -1);
        x.root(1, -1);
        is(NO, x.mean(1), "24: none are reached");
        ReversedLinks y = chain(5);
        y.begin(0);
        y.step(4);
        is(2, y.mean(0), "24: ten of five while fields are turned");
        is(1, y.mean(1), "24: ten of five while fields are turned");
    }
}
