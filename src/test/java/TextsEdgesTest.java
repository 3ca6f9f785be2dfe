/** Promises 10 and 11 and THE TEXT, at their boundaries: each run is one sentence of the document. */
final class TextsEdgesTest extends Script {
    /** 98 bytes that make 16 cells, six rows one behind another. */
    private static final String SIX_ROWS = "[<[]>,<[]>,<[]>,<[]>,<[]>,~]" + ",[~,~,~,~,~,~]".repeat(5);

    public static void main(String[] args) {
        signs();
        hundredBytes();
        firstSigns();
        signsWithin();
        signsBehind();
        withinSixOthers();
        rowsOfSix();
        letters();
        around();
        numbers();
        theRoot();
        theTextIsEmptyThen();
        refusals();
        full();
        cleanOrNot();
        end();
    }

    static void signs() {
        run("10: a sign 0 .. 127", "feed(-1) = BAD; feed(128) = BAD; feed(0) = 1; feed(1) = 2; feed(126) = 3; feed(127) = 4; count(4) = 4");
        run("10: BAD at the ends of all numbers, and where a byte would come round",
            "feed(MIN) = BAD; feed(MAX) = BAD; feed(256) = BAD; feed(305) = BAD; feed(-207) = BAD; feed(-128) = BAD; count(4) = 0");
        run("10: while a MARKING runs, and CLEAN or not", "begin(0); feed(49) = 1; step(99) = 5; feed(50) = 2; told(14) = 1");
        for (int sign = 0; sign < 128; sign++) {
            ReversedLinks x = new ReversedLinks();
            is(1, x.feed(sign), "10: sign " + sign);
            is(1, x.count(4), "10: sign " + sign);
        }
    }

    static void hundredBytes() {
        run("10: THE TEXT, 100 bytes at most", times(99, "feed(60) = @"),
            "count(4) = 99; feed(60) = 100; feed(60) = FULL; feed(0) = FULL; feed(127) = FULL; count(4) = 100; feed(60) = FULL");
        run("10: BAD ahead of FULL", times(100, "feed(60) = @"), "feed(-1) = BAD; feed(128) = BAD; feed(MIN) = BAD; feed(MAX) = BAD; feed(60) = FULL");
        run("10: FULL no more, THE TEXT being empty", times(100, "feed(60)"), "feed(60) = FULL; build(0) = -16; feed(60) = 1");
        run("11: a GRAPH of 100 bytes", "'[" + SIX_ROWS + "]' count(4) = 100; build(3) = 17; told(18) = 0; count(0) = 17; count(4) = 0");
        run("11: a GRAPH of 99 bytes", "'[" + SIX_ROWS.substring(0, 97) + "' feed(93) = 99; feed(93) = 100; build(3) = 17");
        run("11: the FAULT is the 100th byte", "'[" + SIX_ROWS + ")' count(4) = 100; build(3) = -109; count(0) = 0; count(4) = 0; told(18) = -5");
        run("11: the FAULT is the end of 100 bytes", "'[[" + SIX_ROWS + "' count(4) = 100; build(3) = -110; count(0) = 0; count(4) = 0; told(18) = -5");
        run("11: the FAULT is the end, no matter what was fed beyond it", "'[[" + SIX_ROWS + "]]' count(4) = 100; build(3) = -110");
    }

    private static void built(int due, ReversedLinks x, String text, int root) {
        is(due, build(x, text, root), "11: " + text);
        is(0, x.count(4), "11: THE TEXT is empty then: " + text);
    }

    private static boolean isOpening(int sign) {
        return sign == '(' || sign == '[' || sign == '<';
    }

    private static boolean isDigit(int sign) {
        return sign >= '0' && sign <= '9';
    }

    /** Each sign 0 .. 127 as a text of its own: by no cells, by all of them, by some of which one is missing. */
    static void firstSigns() {
        for (int sign = 0; sign < 128; sign++) {
            String text = String.valueOf((char) sign);
            int due = isOpening(sign) ? -11 : sign == '~' ? 0 : -10;
            built(isDigit(sign) ? 1 : due, new ReversedLinks(), text, 0);
            built(isDigit(sign) ? -4 : sign >= 'a' && sign <= 'x' ? 0 : due, chain(24), text, 0);
            ReversedLinks some = chain(4);
            some.hold(0, 0, 2);
            some.begin(0);
            finish(some);
            is(1, some.sweep(), "11: b is missing");
            built(isDigit(sign) ? 1 : sign == 'a' || sign == 'c' || sign == 'd' ? 0 : due, some, text, 1);
        }
    }

    /** Each sign behind 1 .. 6 openings, where an E, or the end of a ROW of none, is wanted. */
    static void signsWithin() {
        for (int depth = 1; depth <= 6; depth++) {
            for (char opening : new char[] {'(', '[', '<'}) {
                String ahead = "<".repeat(depth - 1) + opening;
                for (int sign = 0; sign < 128; sign++) {
                    boolean isElement = isDigit(sign) || sign == '~' || sign >= 'A' && sign < 'A' + depth || isOpening(sign) && depth < 6;
                    boolean isEnd = opening == '[' && sign == ']';
                    int due = isEnd && depth == 1 ? 1 : isElement || isEnd ? -10 - depth - 1 : -10 - depth;
                    built(due, new ReversedLinks(), ahead + (char) sign, 0);
                }
            }
        }
    }

    /** Each sign behind an E, where it is known which ones may come. */
    static void signsBehind() {
        mayComeBehind("1", "");
        mayComeBehind("~", "");
        mayComeBehind("[]", "");
        mayComeBehind("(1.2)", "");
        mayComeBehind("<1>", "");
        mayComeBehind("(1", ".");
        mayComeBehind("((1.2)", ".");
        mayComeBehind("(1.2", ")");
        mayComeBehind("(1.[]", ")");
        mayComeBehind("<1", ">");
        mayComeBehind("<A", ">");
        mayComeBehind("[1", ",]");
        mayComeBehind("[[]", ",]");
        mayComeBehind("[1,2,3,4,5", ",]");
        mayComeBehind("[1,2,3,4,5,6", "]");
        mayComeBehind("[1,2,3,4,5,<~>", "]");
        mayComeBehind("[~,~,~,~,~,~", "]");
    }

    private static void mayComeBehind(String ahead, String signs) {
        for (int sign = 0; sign < 128; sign++) {
            int place = ahead.length();
            int due = build(new ReversedLinks(), ahead + (char) sign, 0);
            boolean isOne = signs.indexOf(sign) >= 0;
            boolean isWhole = isOne && (sign == ')' || sign == ']' || sign == '>');
            is(1, (isWhole ? due > 0 : due == -10 - place - (isOne ? 1 : 0)) ? 1 : 0, "11: " + ahead + (char) sign + " answered " + due);
        }
    }

    static void withinSixOthers() {
        run("11: within 5 others: each of the three, six deep", "'<<<<<(1.2)>>>>>' build(0) = 8", "'<<<<<[1]>>>>>' build(0) = 7", "'<<<<<<1>>>>>>' build(0) = 7");
        run("11: within 6 others: none of the three", "'<<<<<<(1.2)>>>>>>' build(0) = -16", "'<<<<<<[]>>>>>>' build(0) = -16", "'<<<<<<<1>>>>>>>' build(0) = -16; count(0) = 0");
        run("11: within 6 others of every kind", "'([<([<(' build(0) = -16", "'(1.[2,<(3.[4,<[' build(0) = -24", "'(1.[2,<(3.[4,<5>])>])' build(0) = 11");
        run("11: others that ended aren't around", "'[<<<<<1>>>>>,<<<<<2>>>>>]' build(0) = 13", "'[[],[],[],[],[],[]]' build(0) = 7");
        run("11: an ATOM, a letter, nothing within 6 others", "'<<<<<<1>>>>>>' build(0) = 7", "'<<<<<<a>>>>>>' build(0) = 6", "'<<<<<<~>>>>>>' build(0) = 6; field(18, 0) = -5");
    }

    static void rowsOfSix() {
        run("11: [] a ROW of none", "'[]' build(0) = 1; of(0, 0) = 2; of(0, 2) = 0; field(0, 0) = NONE");
        run("11: [E] a ROW of one", "'[~]' build(0) = 1; of(0, 2) = 1; field(0, 0) = -5; field(0, 1) = NONE");
        run("11: a ROW of 5, of 6", "'[1,2,3,4,5]' build(0) = 6; of(0, 2) = 5", "'[1,2,3,4,5,6]' build(0) = 7; of(6, 2) = 6; field(6, 5) = 12");
        run("11: a ROW of 7: the FAULT is the comma", "'[1,2,3,4,5,6,7]' build(0) = -22; count(0) = 0", "'[~,~,~,~,~,~,' build(0) = -22", "'[~,~,~,~,~,~' build(0) = -22");
        run("11: a comma wants an E", "'[1,]' build(0) = -13", "'[,]' build(0) = -11", "'[1,,2]' build(0) = -13", "'[1,' build(0) = -13");
        run("11: a ROW within a ROW has its own number", "'[1,[2,3],4]' build(0) = 6; of(0, 2) = 3; of(2, 2) = 2; field(0, 2) = 5");
    }

    static void letters() {
        run("11: a letter's CELL must be there: the last that came, the next one", "'[1,2]' build(0) = 3; ", "'c' build(1) = 0; told(16) = 2", "'d' build(1) = -10; told(16) = 2");
        run("11: a letter is no CELL of this very text", "'<a>' build(0) = -11", "'[1,b]' build(0) = -13", "'1' build(0) = 1", "'[1,b]' build(0) = -13", "'[1,a]' build(0) = 2");
        run("11: x is CELL 23", times(23, "cell(0, 0, 0)"), "'x' build(0) = -10; cell(0, 0, 0) = 23; ", "'x' build(0) = 0; told(15) = 23", "'w' build(0) = 0; told(15) = 22", "'y' build(0) = -10; told(15) = 22");
        run("11: a missing CELL isn't there", "cell(0, 0, 0); cell(0, 0, 0); root(0, 1); begin(0); step(99); sweep() = 1; ", "'a' build(0) = -10", "'<a>' build(0) = -11", "'<b>' build(0) = 1; field(2, 0) = 1");
        run("11: it is there again when all is as THE IMAGE", "cell(0, 0, 0); begin(0); step(99); image() = 1; sweep() = 1; undo() = 1; ", "'a' build(0) = 0; told(15) = 0");
    }

    static void around() {
        run("11: A the innermost, B the next one, up to F", "'<<<<<[A,B,C,D,E,F]>>>>>' build(0) = 6; field(5, 0) = 5; field(5, 1) = 4; field(5, 2) = 3; field(5, 3) = 2; field(5, 4) = 1; field(5, 5) = 0");
        run("11: the PAIR, ROW or BOX around must be there", "'A' build(0) = -10", "'<B>' build(0) = -11", "'<<C>>' build(0) = -12", "'<<<D>>>' build(0) = -13", "'<<<<E>>>>' build(0) = -14",
            "'<<<<<F>>>>>' build(0) = -15", "'<<<<<<G>>>>>>' build(0) = -16; count(0) = 0");
        run("11: it is there at its own depth", "'<A>' build(0) = 1; field(0, 0) = 0", "'<<B>>' build(0) = 2; field(2, 0) = 1", "'<<<C>>>' build(0) = 3; field(5, 0) = 3");
        run("11: in either place of a PAIR", "'(A.A)' build(0) = 1; field(0, 0) = 0; field(0, 1) = 0", "'(1.(A.B))' build(0) = 3; field(3, 0) = 3; field(3, 1) = 1");
        run("11: one that ended is not around", "'[<1>,A,B]' build(0) = -17", "'[<1>,A]' build(0) = 3; field(0, 1) = 0", "'([].B)' build(0) = -14");
    }

    static void numbers() {
        run("11: by the places of their first bytes", "'(<[1,2]>.[(3.4)])' build(0) = 9; of(0, 0) = 1; of(1, 0) = 3; of(2, 0) = 2; of(3, 1) = 1; of(4, 1) = 2; of(5, 0) = 2; of(6, 0) = 1; of(7, 1) = 3; of(8, 1) = 4;"
            + "field(0, 0) = 1; field(0, 1) = 5; field(1, 0) = 2; field(2, 0) = 3; field(2, 1) = 4; field(5, 0) = 6; field(6, 0) = 7; field(6, 1) = 8");
        run("11: TAGS of digits, 0 .. 9", "'[0,1,2,3,4]' build(0) = 6; of(1, 1) = 0; of(2, 1) = 1; of(5, 1) = 4", "'[5,6,7,8,9]' build(0) = 6; of(7, 1) = 5; of(11, 1) = 9");
        run("11: TAGS of these are 0", "'[(1.2),<3>]' build(0); of(0, 1) = 0; of(1, 1) = 0; of(4, 1) = 0");
        run("11: the new ones aren't MARKED or PINNED", "'1' build(0); pin(0, true); begin(0); step(99); ", "'<2>' build(0) = 2; of(1, 3) = 0; of(1, 6) = 0; of(1, 4) = 0; of(0, 3) = 1; of(0, 6) = 1");
        run("11: how many came, behind those that are missing", "cell(0, 0, 0); cell(0, 0, 0); begin(0); step(99); sweep() = 2; ", "'<1>' build(0) = 2; told(15) = 2; count(0) = 4; told(13) = 0b1100");
    }

    static void theRoot() {
        run("11: a ROOT holds what its first byte stands for: a new one", "cell(0, 0, 0); ", "'[1]' build(0) = 2; told(15) = 1", "'2' build(3) = 1; told(18) = 3; told(15) = 1");
        run("11: one that was there", "cell(0, 0, 0); cell(0, 0, 0); ", "'b' build(2) = 0; told(17) = 1; count(0) = 2");
        run("11: or nothing", "cell(0, 0, 0); root(1, 0); ", "'~' build(1) = 0; told(16) = -5; count(0) = 1");
        run("11: a refused one leaves it", "cell(0, 0, 0); root(1, 0); ", "'[' build(1) = -11; told(16) = 0", "'' build(1) = -10; told(16) = 0");
    }

    static void theTextIsEmptyThen() {
        run("11: by a GRAPH", "'1' count(4) = 1; build(0) = 1; count(4) = 0; build(0) = -10");
        run("11: by a FAULT", "'1(' build(0) = -11; count(4) = 0; feed(50) = 1; build(0) = 1; of(0, 1) = 2");
        run("11: by FULL", times(24, "cell(0, 0, 0)"), "'1' build(0) = FULL; count(4) = 0; feed(126) = 1; build(0) = 0");
        run("11: an empty one has its FAULT at 0", "build(0) = -10; build(3) = -10; count(4) = 0; told(15) = -5");
        run("11: not by NONE, nor by STATE", "'1' build(4) = NONE; build(-1) = NONE; count(4) = 1; begin(0); build(0) = STATE; count(4) = 1; leave(); build(0) = 1; of(0, 1) = 1");
    }

    static void refusals() {
        run("11: NONE: ROOTS are 0 .. 3", "'1' build(-1) = NONE; build(4) = NONE; build(MIN) = NONE; build(MAX) = NONE; build(32) = NONE; build(3) = 1; told(18) = 0", "'2' build(0) = 1");
        run("11: NONE ahead of STATE", "'1' begin(0); build(4) = NONE; build(-1) = NONE; build(3) = STATE");
        run("11: NONE ahead of a FAULT, and of FULL", times(24, "cell(0, 0, 0)"), "'1' build(4) = NONE; feed(50) = 2; build(-1) = NONE; build(0) = -11", "'3' build(4) = NONE; build(0) = FULL");
        run("11: STATE ahead of a FAULT, and of FULL", times(24, "cell(0, 0, 0)"), "'1' begin(0); build(0) = STATE; feed(50) = 2; build(0) = STATE; leave(); build(0) = -11; begin(0); build(0) = STATE");
        run("11: a FAULT ahead of FULL", times(24, "cell(0, 0, 0)"), "'12' build(0) = -11", "'[1,2' build(0) = -14", "'[[1,2,3,4,5,6],[1,2,3,4,5,6],(7,8)' build(0) = -41; count(0) = 24");
        run("11: STATE no more, the MARKING being OVER", "begin(0); step(4) = 4; ", "'1' build(0) = STATE; step(1) = 1; build(0) = 1");
    }

    static void full() {
        run("11: 24 may have come", times(23, "cell(0, 0, 0)"), "'7' build(0) = 1; told(15) = 23; of(23, 1) = 7; count(0) = 24");
        run("11: FULL: 25 would have come", times(23, "cell(0, 0, 0)"), "'<1>' build(0) = FULL; count(0) = 23; told(15) = -5; of(23, 0) = NONE", "'1' build(0) = 1", "'1' build(0) = FULL; told(15) = 23");
        run("11: all 24 by one text", "'[[1,2,3,4,5,6],[1,2,3,4,5,6],[1,2,3,4,5,6],(8.~)]' build(2) = 24; told(17) = 0; told(13) = 16777215; of(23, 1) = 8; field(22, 0) = 23");
        run("11: 25 by one text", "'[[1,2,3,4,5,6],[1,2,3,4,5,6],[1,2,3,4,5,6],(8.9)]' build(2) = FULL; told(17) = -5; told(13) = 0; count(0) = 0; count(4) = 0");
        run("11: none comes, so it isn't FULL", times(24, "cell(0, 0, 0)"), "'~' build(0) = 0", "'a' build(0) = 0; told(15) = 0", "'x' build(0) = 0; told(15) = 23", "'[a]' build(0) = FULL; told(15) = 23");
    }

    static void cleanOrNot() {
        String over = "cell(0, 0, 0); root(0, 0); begin(0); step(99); told(14) = 1;";
        run("CLEAN no more: CELLS came", over, "'1' build(1) = 1; told(14) = 0; sweep() = STATE");
        run("CLEAN no more: a ROOT was told", over, "'~' build(1) = 0; told(14) = 0; sweep() = STATE");
        run("CLEAN no more: a ROOT was told what it is", over, "'a' build(0) = 0; told(14) = 0; sweep() = STATE");
        run("CLEAN still: a FAULT", over, "'(' build(1) = -11; told(14) = 1; sweep() = 0");
        run("CLEAN still: NONE", over, "'1' build(4) = NONE; told(14) = 1; sweep() = 0");
        run("CLEAN still: FULL", times(23, "cell(0, 0, 0)"), over, "'1' build(1) = FULL; told(14) = 1; sweep() = 23");
    }
}
