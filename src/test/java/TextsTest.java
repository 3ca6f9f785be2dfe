/** Promises 10 and 11. */
final class TextsTest extends Due {
    public static void main(String[] args) {
        feed();
        graphs();
        faults();
        letters();
        around();
        refusals();
        full();
        clean();
        end();
    }

    static void feed() {
        ReversedLinks x = new ReversedLinks();
        is(-2, x.feed(-1), "10: sign -1");
        is(-2, x.feed(128), "10: sign 128");
        is(1, x.feed(0), "10: sign 0");
        is(2, x.feed(127), "10: sign 127");
        for (int n = 3; n <= 100; n++) {
            is(n, x.feed('<'), "10: how many");
        }
        is(100, x.count(4), "10: how many");
        is(-4, x.feed('<'), "10: full");
        is(-2, x.feed(128), "10: sign ahead of full");
        is(100, x.count(4), "10: full, and nothing changed");
        is(-10, x.build(0), "10: the first byte is the first fed");
        x.begin(0);
        is(1, x.feed('1'), "10: while a marking runs");
    }

    static void graphs() {
        ReversedLinks x = new ReversedLinks();
        is(8, build(x, "[(A.2),<3>,[4,5],~]", 2), "11: how many came");
        is(0, x.told(17), "11: the root holds the first");
        is(-5, x.told(15), "11: another root holds nothing");
        is(0, x.count(4), "11: the text is empty");
        is(8, x.count(0), "11: eight of them");
        int[] layouts = {ROW, PAIR, ATOM, BOX, ATOM, ROW, ATOM, ATOM};
        int[] tags = {0, 0, 2, 0, 3, 0, 4, 5};
        int[] sizes = {4, 2, 0, 1, 0, 2, 0, 0};
        for (int cell = 0; cell < 8; cell++) {
            is(layouts[cell], x.of(cell, 0), "11: layouts by the places of first bytes");
            is(tags[cell], x.of(cell, 1), "11: tags");
            is(sizes[cell], x.of(cell, 2), "11: fields");
        }
        int[][] fields = {{1, 3, 5, -5}, {1, 2}, {}, {4}, {}, {6, 7}, {}, {}};
        for (int cell = 0; cell < 8; cell++) {
            for (int i = 0; i < fields[cell].length; i++) {
                is(fields[cell][i], x.field(cell, i), "11: field " + i + " of " + cell);
            }
        }
        is(1, build(x, "[]", 2), "11: a row of none");
        is(8, x.told(17), "11: the root holds the new one");
        is(0, x.of(8, 2), "11: it has no fields");
        is(7, build(x, "[0,1,2,3,4,9]", 3), "11: a row of six");
        is(6, x.of(9, 2), "11: six fields");
        is(9, x.of(15, 1), "11: the last one's tag");
        is(7, build(x, "<<<<<<1>>>>>>", 3), "11: six deep");
        is(22, x.field(21, 0), "11: the innermost");
    }

    static void faults() {
        String[] texts = {"", "x", "(", "(1", "(1.", "(1.2", "()", "(1,2)", "(1.2]", "[",
            "[1", "[,1]", "[1,]", "[1,2", "[1.2]", "[1,2,3,4,5,6,7]", "<", "<>", "<1", "<1.2>",
            "<1>>", "12", "~~", "a", "y", "A", "<B>", "<G>", "(B.A)", "(1.B)",
            "[]]", " 1", "1 ", "{", "(1.2) ", "<<<<<<<1", "[[[[[[(", "[[[[[[1]]]]]]x", "[1,[],]", "(1.(2.3)",
            "(1.2.3)", "[1;2]", "<<[<<(1.[", ")", "]", ">", "[1]2", "[[1],]", "/", ":"};
        int[] faults = {0, 0, 1, 2, 3, 4, 1, 2, 4, 1,
            2, 1, 3, 4, 2, 12, 1, 1, 2, 2,
            3, 1, 1, 0, 0, 0, 1, 1, 1, 3,
            2, 0, 1, 0, 5, 6, 6, 13, 6, 8,
            4, 2, 8, 0, 0, 0, 3, 5, 0, 0};
        for (int k = 0; k < texts.length; k++) {
            ReversedLinks x = new ReversedLinks();
            is(-10 - faults[k], build(x, texts[k], 0), "11: fault of " + texts[k]);
            is(0, x.count(4), "11: the text is empty by a fault");
            is(0, x.count(0), "11: no cell comes by a fault");
            is(-5, x.told(15), "11: the root holds nothing still");
        }
        ReversedLinks x = new ReversedLinks();
        feed(x, "[[1,2,3,4,5,6],[1,2,3,4,5,6],[1,2,3,4,5,6],[1,2,3,4,5,6],[1,2,3,4,5,6],[1,2,3,4,5,6]]");
        feed(x, "          ".repeat(2));
        is(100, x.count(4), "11: a hundred bytes");
        is(-10 - 85, x.build(0), "11: a fault far behind, and ahead of being full");
    }

    static void letters() {
        ReversedLinks x = new ReversedLinks();
        is(1, build(x, "8", 0), "11: an atom");
        is(8, x.of(0, 1), "11: its tag");
        is(0, build(x, "a", 1), "11: a letter");
        is(0, x.told(16), "11: the root holds what the letter is");
        is(0, build(x, "~", 1), "11: nothing");
        is(-5, x.told(16), "11: the root holds nothing");
        is(-13, build(x, "[a,b]", 1), "11: what comes by the text is none of its letters");
        is(1, build(x, "(a.a)", 1), "11: letters inside");
        is(0, x.field(1, 0), "11: a letter inside");
        x.root(0, -1);
        x.root(1, -1);
        build(x, "7", 2);
        x.begin(0);
        finish(x);
        is(2, x.sweep(), "11: two go");
        is(-10, build(x, "a", 0), "11: a swept one is no letter");
        is(0, build(x, "c", 0), "11: one that is there is");
        for (int k = 0; k < 21; k++) {
            build(x, "1", 1);
        }
        is(0, build(x, "x", 0), "11: the last letter");
        is(23, x.told(15), "11: the last cell");
    }

    static void around() {
        ReversedLinks x = new ReversedLinks();
        build(x, "8", 0);
        is(3, build(x, "<(A.[B,C,a,~])>", 1), "11: around");
        is(2, x.field(1, 0), "11: the pair");
        is(2, x.field(2, 0), "11: A is the innermost: the pair");
        is(3, x.field(2, 1), "11: the row");
        is(2, x.field(3, 0), "11: B is the next one: the pair");
        is(1, x.field(3, 1), "11: C is the box");
        is(0, x.field(3, 2), "11: a is cell 0");
        is(-5, x.field(3, 3), "11: nothing");
        is(6, build(x, "<<<<<(F.E)>>>>>", 1), "11: around, six of them");
        is(4, x.field(9, 0), "11: F is the outermost");
        is(5, x.field(9, 1), "11: E is the next one");
        is(-10 - 5, build(x, "<<<<(F.E)>>>>", 1), "11: F of five");
        is(-10 - 4, build(x, "[1,<C>]", 1), "11: C of two");
        is(-10 - 7, build(x, "[<<1>>,B]", 1), "11: what was closed is not around");
    }

    static void refusals() {
        ReversedLinks x = new ReversedLinks();
        feed(x, "(1.2)");
        is(-1, x.build(4), "11: root 4");
        is(-1, x.build(-1), "11: root -1");
        is(5, x.count(4), "11: the text stays");
        x.begin(0);
        is(-3, x.build(0), "11: a marking runs");
        is(-1, x.build(4), "11: root ahead of the state");
        is(5, x.count(4), "11: the text stays");
        x.leave();
        is(3, x.build(0), "11: the text that stayed");
    }

    static void full() {
        ReversedLinks x = new ReversedLinks();
        for (int k = 0; k < 3; k++) {
            is(7, build(x, "[1,2,3,4,5,6]", 0), "11: seven come");
        }
        is(-4, build(x, "[1,2,3]", 1), "11: full");
        is(0, x.count(4), "11: the text is empty all the same");
        is(21, x.count(0), "11: none came");
        is(-1, x.of(21, 0), "11: none came");
        is(-5, x.told(16), "11: the root holds nothing");
        is(14, x.told(15), "11: the other one holds what it held");
        is(3, build(x, "(1.2)", 1), "11: 24");
        is(-4, build(x, "1", 1), "11: 25");
        is(-12, build(x, "(1", 1), "11: fault ahead of full");
        is(0, build(x, "~", 1), "11: none comes");
        is(0, build(x, "x", 1), "11: none comes");
        is(23, x.told(16), "11: the last one");
        ReversedLinks y = new ReversedLinks();
        is(-4, build(y, "[[1,2,3,4,5,6],[1,2,3,4,5,6],[1,2,3,4,5,6],[A,B,1,2,3,4]]", 0), "11: 27 at once");
        is(0, y.count(0), "11: none came");
        is(24, build(y, "[[1,2,3,4,5,6],[1,2,3,4,5,6],[1,2,3,4,5,6],<A>,[~]]", 0), "11: 24 at once");
        is(22, y.field(22, 0), "11: the box holds itself");
    }

    static void clean() {
        ReversedLinks x = built("1");
        x.begin(0);
        finish(x);
        build(x, "(1", 0);
        is(1, x.told(14), "11: clean still, by a fault");
        feed(x, "1");
        x.build(4);
        is(1, x.told(14), "11: clean still, by no root");
        x.build(1);
        is(0, x.told(14), "11: clean no more");
        x.begin(0);
        finish(x);
        build(x, "~", 0);
        is(0, x.told(14), "11: clean no more, the root being told");
    }
}
