/** What the tests share: each compares answers with those that are due, and ends with exit code 1 if one is otherwise. */
class Due {
    static final long NO = Long.MIN_VALUE;
    static final int MIN = Integer.MIN_VALUE, MAX = Integer.MAX_VALUE;
    static final int ATOM = 0, PAIR = 1, ROW = 2, BOX = 3, WEAK = 4, TABLE = 5, HALF = 6;

    private static int wrong = 0;
    private static int asked = 0;

    static void is(long due, long got, String what) {
        asked++;
        if (got != due) {
            wrong++;
            System.out.println(what + ": answered " + got + ", due is " + due);
        }
    }

    static void end() {
        System.out.println(wrong == 0 ? asked + " answers are as due" : wrong + " answers are not as due");
        if (wrong != 0) {
            System.exit(1);
        }
    }

    static void feed(ReversedLinks x, String text) {
        for (int i = 0; i < text.length(); i++) {
            x.feed(text.charAt(i));
        }
    }

    static int build(ReversedLinks x, String text, int root) {
        feed(x, text);
        return x.build(root);
    }

    static ReversedLinks built(String text) {
        ReversedLinks x = new ReversedLinks();
        build(x, text, 0);
        return x;
    }

    /** Boxes 0 .. n - 1, each of which holds the next one; root 0 holds the first. */
    static ReversedLinks chain(int n) {
        ReversedLinks x = new ReversedLinks();
        for (int cell = 0; cell < n; cell++) {
            x.cell(BOX, 0, 0);
        }
        for (int cell = 0; cell + 1 < n; cell++) {
            x.hold(cell, 0, cell + 1);
        }
        x.root(0, 0);
        return x;
    }

    static void finish(ReversedLinks x) {
        x.step(99);
        x.step(99);
        x.step(99);
    }
}
