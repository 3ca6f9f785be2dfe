import java.util.Random;

/**
 * All promises: long runs of calls, made up by fixed seeds, on ReversedLinks and on Model, answer by answer. Two
 * objects are used at once, call by call: neither may know of the other.
 */
final class ModelTest extends Due {
    private static final int RUNS = 400;
    private static final int CALLS = 512;
    private static final int[] ODD = {-1, -2, -5, 4, 5, 6, 7, 8, 9, 10, 24, 25, 40, 41, 60, 61, 99, 100, 400, 401, MIN, MAX};

    private final Random random;
    private final ReversedLinks x = new ReversedLinks();
    private final Model m = new Model();
    private final String name;
    private final int style;
    private int cells = 0;

    private ModelTest(int seed) {
        random = new Random(seed);
        name = "run " + seed + ": ";
        style = random.nextInt(4);
    }

    public static void main(String[] args) {
        for (int seed = 0; seed < RUNS; seed += 2) {
            ModelTest one = new ModelTest(seed);
            ModelTest other = new ModelTest(seed + 1);
            for (int k = 0; k < CALLS; k++) {
                one.goOn(k);
                other.goOn(k);
            }
            one.finish();
            other.finish();
        }
        end();
    }

    private void goOn(int k) {
        if (k < 90 && style != 0) {
            makeUp(style);
        } else {
            call();
        }
        if (k % 60 == 0) {
            lookAtAll();
        }
    }

    private void finish() {
        lookAtAll();
        extremes();
        lookAtAll();
    }

    private int below(int n) {
        return random.nextInt(n);
    }

    /** A number below n, now and then one that is odd. */
    private int number(int n) {
        return below(25) == 0 ? ODD[below(ODD.length)] : below(n);
    }

    private int someCell() {
        return number(Math.max(cells, 1));
    }

    private int cellOrNothing() {
        return below(8) == 0 ? -1 : someCell();
    }

    private void same(String call, long got, long due) {
        is(due, got, name + call);
    }

    /** What makes a graph: cells by hand, or by texts, or both. */
    private void makeUp(int style) {
        if (style == 2 && below(3) == 0 || style == 3 && below(8) == 0) {
            text();
            return;
        }
        int k = below(20);
        if (k < 4 && style != 2 && cells < 24) {
            cell();
        } else if (k < 16) {
            hold();
        } else if (k < 18) {
            root();
        } else if (k < 19) {
            pin();
        } else {
            cell();
        }
    }

    private void cell() {
        int layout = number(7);
        int tag = number(10);
        int n = number(7);
        same("cell(" + layout + ", " + tag + ", " + n + ")", x.cell(layout, tag, n), m.cell(layout, tag, n));
        cells = m.count(0);
    }

    private void hold() {
        int cell = someCell();
        int i = number(below(2) == 0 ? 2 : 6);
        int other = cellOrNothing();
        same("hold(" + cell + ", " + i + ", " + other + ")", x.hold(cell, i, other), m.hold(cell, i, other));
    }

    private void root() {
        int root = number(4);
        int cell = cellOrNothing();
        same("root(" + root + ", " + cell + ")", x.root(root, cell), m.root(root, cell));
    }

    private void pin() {
        int cell = someCell();
        boolean isPinned = below(2) == 0;
        same("pin(" + cell + ", " + isPinned + ")", x.pin(cell, isPinned), m.pin(cell, isPinned));
    }

    private void text() {
        StringBuilder text = new StringBuilder();
        element(text, 0);
        if (below(4) == 0 && text.length() > 0) {
            String signs = "()[]<>.,~0a1bABCFGxy9 /:";
            int place = below(text.length());
            int how = below(3);
            if (how == 0) {
                text.setCharAt(place, signs.charAt(below(signs.length())));
            } else if (how == 1) {
                text.deleteCharAt(place);
            } else {
                text.insert(place, signs.charAt(below(signs.length())));
            }
        }
        for (int i = 0; i < text.length(); i++) {
            feed(text.charAt(i));
        }
        build();
    }

    private void element(StringBuilder text, int depth) {
        int k = below(depth == 0 ? 5 : 10);
        if (depth > 6 || k > 4) {
            String signs = "0123456789~ABCDEFabcdefghijklmnopqrstuvwx";
            text.append(signs.charAt(below(below(2) == 0 ? 11 : signs.length())));
        } else if (k == 0) {
            text.append('(');
            element(text, depth + 1);
            text.append('.');
            element(text, depth + 1);
            text.append(')');
        } else if (k == 1 || k == 2) {
            text.append('[');
            int n = below(4) == 0 ? below(8) : below(3);
            for (int i = 0; i < n; i++) {
                if (i > 0) {
                    text.append(',');
                }
                element(text, depth + 1);
            }
            text.append(']');
        } else {
            text.append('<');
            element(text, depth + 1);
            text.append('>');
        }
    }

    private void feed(int sign) {
        same("feed(" + sign + ")", x.feed(sign), m.feed(sign));
    }

    private void build() {
        int root = number(4);
        same("build(" + root + ")", x.build(root), m.build(root));
        cells = m.count(0);
    }

    private void begin() {
        int limit = below(3) == 0 ? 0 : number(9);
        same("begin(" + limit + ")", x.begin(limit), m.begin(limit));
    }

    private void step() {
        int n = below(12) == 0 ? number(100) : below(9);
        same("step(" + n + ")", x.step(n), m.step(n));
    }

    private void stepToTheEnd() {
        same("step(99)", x.step(99), m.step(99));
        same("step(99)", x.step(99), m.step(99));
    }

    private void call() {
        int k = below(100);
        if (k < 30) {
            mark(k);
        } else if (k < 50) {
            change(k);
        } else if (k < 80) {
            ask(k);
        } else {
            tapes(k);
        }
    }

    private void mark(int k) {
        if (k < 5) {
            begin();
        } else if (k < 22) {
            step();
        } else if (k < 24) {
            stepToTheEnd();
        } else if (k < 25) {
            same("leave()", x.leave(), m.leave());
        } else if (k < 27) {
            stepToTheEnd();
            same("sweep()", x.sweep(), m.sweep());
        } else {
            pin();
        }
    }

    private void change(int k) {
        if (k < 32) {
            cell();
        } else if (k < 37) {
            hold();
        } else if (k < 40) {
            root();
        } else if (k < 42) {
            text();
        } else if (k < 44) {
            int cell = someCell();
            int n = number(10);
            same("tag(" + cell + ", " + n + ")", x.tag(cell, n), m.tag(cell, n));
        } else if (k < 45) {
            same("image()", x.image(), m.image());
        } else if (k < 46 && below(2) == 0) {
            same("undo()", x.undo(), m.undo());
            cells = m.count(0);
        } else if (k < 47) {
            see();
        } else if (k < 48) {
            int what = below(12) == 0 ? -1 : number(3);
            int n = what == 0 && below(10) != 0 ? 10 * below(Math.max(cells, 1)) + below(3) : what == 1 ? number(4) : someCell();
            same("plan(" + what + ", " + n + ")", x.plan(what, n), m.plan(what, n));
        } else {
            int cell = below(12) == 0 ? -1 : someCell();
            int i = number(3);
            int other = below(4) == 0 ? cellOrNothing() : Math.max(m.field(cell, i), -1);
            same("book(" + cell + ", " + i + ", " + other + ")", x.book(cell, i, other), m.book(cell, i, other));
        }
    }

    private void see() {
        int cell = below(8) == 0 ? -1 : someCell();
        int n = below(4) == 0 ? number(41) : below(12);
        boolean isMarked = below(2) == 0;
        same("see(" + cell + ", " + n + ", " + isMarked + ")", x.see(cell, n, isMarked), m.see(cell, n, isMarked));
    }

    private void ask(int k) {
        int cell = someCell();
        int limit = number(9);
        int what = number(5);
        int part = number(2);
        if (k < 36) {
            askOf(cell, number(13));
        } else if (k < 42) {
            int told = number(19);
            same("told(" + told + ")", x.told(told), m.told(told));
        } else if (k < 50) {
            int n = below(4) == 0 ? number(401) : below(30);
            same("on(" + n + ", " + what + ")", x.on(n, what), m.on(n, what));
        } else if (k < 56) {
            same("need(" + limit + ", " + what + ")", x.need(limit, what), m.need(limit, what));
        } else if (k < 58) {
            same("least(" + part + ")", x.least(part), m.least(part));
        } else if (k < 62) {
            same("fits(" + limit + ")", x.fits(limit), m.fits(limit));
        } else if (k < 66) {
            same("can(" + cell + ", " + limit + ", " + part + ")", x.can(cell, limit, part), m.can(cell, limit, part));
        } else if (k < 69) {
            same("odds(" + cell + ", " + part + ")", x.odds(cell, part), m.odds(cell, part));
        } else if (k < 71) {
            same("mean(" + part + ")", x.mean(part), m.mean(part));
        } else if (k < 73) {
            same("ends()", x.ends(), m.ends());
        } else if (k < 75) {
            same("looked()", x.looked(), m.looked());
        } else if (k < 77) {
            int layout = number(7);
            same("taken(" + cell + ", " + layout + ")", x.taken(cell, layout), m.taken(cell, layout));
        } else {
            same("count(" + what + ")", x.count(what), m.count(what));
        }
    }

    private void askOf(int cell, int what) {
        same("of(" + cell + ", " + what + ")", x.of(cell, what), m.of(cell, what));
    }

    private void tapes(int k) {
        int tape = number(6);
        int i = number(12);
        if (k < 83) {
            int sort = below(2) == 0 ? 4 : below(12) == 0 ? -1 : number(5);
            int n = below(8) == 0 ? number(61) : below(30);
            same("tape(" + tape + ", " + sort + ", " + n + ")", x.tape(tape, sort, n), m.tape(tape, sort, n));
        } else if (k < 86) {
            long v = random.nextLong() >> below(64);
            same("item(" + tape + ", " + i + ", " + v + ")", x.item(tape, i, v), m.item(tape, i, v));
        } else if (k < 89) {
            same("read(" + tape + ", " + i + ")", x.read(tape, i), m.read(tape, i));
        } else if (k < 93) {
            int other = number(6);
            int j = number(12);
            int n = number(12);
            String call = "shift(" + tape + ", " + i + ", " + other + ", " + j + ", " + n + ")";
            same(call, x.shift(tape, i, other, j, n), m.shift(tape, i, other, j, n));
        } else {
            // told rightly as far as it goes, so that judging comes far
            int far = below(3) == 0 ? below(24) : 24;
            int place = below(3);
            int length = below(3) == 0 ? below(28) : 28;
            x.tape(0, 4, length);
            m.tape(0, 4, length);
            for (int cell = 0; cell < far; cell++) {
                x.item(0, place + cell, m.of(cell, 3) == 1 ? 1 : 0);
                m.item(0, place + cell, m.of(cell, 3) == 1 ? 1 : 0);
            }
            same("judge(0, " + place + ")", x.judge(0, place), m.judge(0, place));
            same("judge(" + tape + ", " + i + ")", x.judge(tape, i), m.judge(tape, i));
        }
    }

    private void lookAtAll() {
        for (int what = -1; what < 20; what++) {
            same("told(" + what + ")", x.told(what), m.told(what));
        }
        for (int cell = 0; cell < cells; cell++) {
            for (int what = 0; what < 13; what++) {
                askOf(cell, what);
            }
            for (int i = 0; i < 7; i++) {
                same("field(" + cell + ", " + i + ")", x.field(cell, i), m.field(cell, i));
                same("raw(" + cell + ", " + i + ")", x.raw(cell, i), m.raw(cell, i));
            }
            same("odds(" + cell + ", 0)", x.odds(cell, 0), m.odds(cell, 0));
            same("odds(" + cell + ", 1)", x.odds(cell, 1), m.odds(cell, 1));
        }
        for (int what = 0; what < 5; what++) {
            same("count(" + what + ")", x.count(what), m.count(what));
            same("on(7, " + what + ")", x.on(7, what), m.on(7, what));
        }
        same("mean(0)", x.mean(0), m.mean(0));
        same("mean(1)", x.mean(1), m.mean(1));
        same("ends()", x.ends(), m.ends());
        same("looked()", x.looked(), m.looked());
        for (int tape = 0; tape < 6; tape++) {
            for (int i = 0; i < 60; i++) {
                same("read(" + tape + ", " + i + ")", x.read(tape, i), m.read(tape, i));
            }
        }
    }

    /** Each call with odd numbers for all that it takes: none may throw. */
    private void extremes() {
        for (int k = 0; k < 60; k++) {
            int a = ODD[below(ODD.length)];
            int b = below(3) == 0 ? 0 : ODD[below(ODD.length)];
            int c = below(3) == 0 ? 0 : ODD[below(ODD.length)];
            String with = "(" + a + ", " + b + ", " + c + ")";
            same("cell" + with, x.cell(a, b, c), m.cell(a, b, c));
            same("of" + with, x.of(a, b), m.of(a, b));
            same("field" + with, x.field(a, b), m.field(a, b));
            same("raw" + with, x.raw(a, b), m.raw(a, b));
            same("hold" + with, x.hold(a, b, c), m.hold(a, b, c));
            same("tag" + with, x.tag(a, b), m.tag(a, b));
            same("root" + with, x.root(a, b), m.root(a, b));
            same("pin" + with, x.pin(a, b > 0), m.pin(a, b > 0));
            same("feed" + with, x.feed(a), m.feed(a));
            same("build" + with, x.build(a), m.build(a));
            same("begin" + with, x.begin(a), m.begin(a));
            same("step" + with, x.step(a), m.step(a));
            same("told" + with, x.told(a), m.told(a));
            same("on" + with, x.on(a, b), m.on(a, b));
            same("need" + with, x.need(a, b), m.need(a, b));
            same("least" + with, x.least(a), m.least(a));
            same("see" + with, x.see(a, b, c > 0), m.see(a, b, c > 0));
            same("fits" + with, x.fits(a), m.fits(a));
            same("can" + with, x.can(a, b, c), m.can(a, b, c));
            same("odds" + with, x.odds(a, b), m.odds(a, b));
            same("mean" + with, x.mean(a), m.mean(a));
            same("plan" + with, x.plan(a, b), m.plan(a, b));
            same("book" + with, x.book(a, b, c), m.book(a, b, c));
            same("judge" + with, x.judge(a, b), m.judge(a, b));
            same("taken" + with, x.taken(a, b), m.taken(a, b));
            same("count" + with, x.count(a), m.count(a));
            same("tape" + with, x.tape(a, b, c), m.tape(a, b, c));
            same("item" + with, x.item(a, b, c), m.item(a, b, c));
            same("read" + with, x.read(a, b), m.read(a, b));
            same("shift" + with, x.shift(a, b, c, b, a), m.shift(a, b, c, b, a));
            cells = m.count(0);
        }
    }
}
