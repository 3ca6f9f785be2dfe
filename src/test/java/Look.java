import java.util.Arrays;

/**
 * All that can be seen of an object: first by calls that ask, then by going on with it in every way that shows what
 * can't be asked (what THE TEXT holds, how the marking goes on, what THE IMAGE is). It isn't used again behind that.
 */
final class Look {
    private static final int[] AHEAD = {0, 1, 2, 3, 5, 9, 40, 400};

    private long[] answers = new long[4096];
    private int size = 0;
    private final ReversedLinks x;

    private Look(ReversedLinks x) {
        this.x = x;
    }

    static long[] at(ReversedLinks x) {
        Look look = new Look(x);
        look.ask();
        look.goOn();
        look.finish();
        look.add(x.build(0));
        look.ask();
        look.add(x.undo());
        look.ask();
        look.finish();
        return Arrays.copyOf(look.answers, look.size);
    }

    private void add(long answer) {
        if (size == answers.length) {
            answers = Arrays.copyOf(answers, 2 * size);
        }
        answers[size++] = answer;
    }

    private void goOn() {
        for (int k = 0; k < 4 && x.told(0) == 1; k++) {
            add(x.step(1));
            askOfMarking();
        }
        add(x.leave());
        ask();
    }

    private void finish() {
        add(x.begin(1));
        add(x.step(99));
        add(x.step(99));
        add(x.leave());
        ask();
        add(x.sweep());
        ask();
    }

    private void ask() {
        askOfMarking();
        askOfCells();
        for (int limit = 0; limit <= 8; limit++) {
            for (int what = 0; what < 5; what++) {
                add(x.need(limit, what));
            }
            add(x.fits(limit));
        }
        for (int k = 0; k < 5; k++) {
            add(x.count(k));
        }
        for (int k = 0; k < 2; k++) {
            add(x.least(k));
            add(x.mean(k));
        }
        add(x.ends());
        add(x.looked());
        for (int tape = 0; tape < 6; tape++) {
            add(x.judge(tape, 0));
            for (int i = 0; i < 60; i++) {
                add(x.read(tape, i));
            }
        }
    }

    private void askOfMarking() {
        for (int what = 0; what < 19; what++) {
            add(x.told(what));
        }
        for (int n : AHEAD) {
            for (int what = 0; what < 5; what++) {
                add(x.on(n, what));
            }
        }
        for (int cell = 0; cell < x.count(0); cell++) {
            add(x.of(cell, 4));
            add(x.raw(cell, 0));
        }
    }

    private void askOfCells() {
        for (int cell = 0; cell < x.count(0); cell++) {
            for (int what = 0; what < 13; what++) {
                add(x.of(cell, what));
            }
            for (int i = 0; i < 6; i++) {
                add(x.field(cell, i));
                add(x.raw(cell, i));
            }
            add(x.odds(cell, 0));
            add(x.odds(cell, 1));
            add(x.can(cell, 1, 0));
            add(x.can(cell, 1, 1));
        }
    }
}
