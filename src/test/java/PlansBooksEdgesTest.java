/** Promises 25 to 28, at their boundaries: each run is one sentence of the document. */
final class PlansBooksEdgesTest extends Script {
    /** A row 0 of an atom 1 and a pair 2 of atoms 3 and 4, held by ROOT 0. */
    private static final String ROW_OF_TWO = "'[1,(2.3)]' build(0) = 5;";
    /** A box 0 that holds an atom 1, held by ROOT 0, and a box 2 and a half 3 that hold 1 and 0: these go when it is swept. */
    private static final String SOME_GO = "cell(3, 0, 0); cell(0, 0, 0); cell(3, 0, 0); cell(6, 1, 0); hold(0, 0, 1); hold(2, 0, 1); hold(3, 0, 0); root(0, 0);";

    public static void main(String[] args) {
        planRefusals();
        planRows();
        ends();
        endsOfWhatIsMissing();
        bookRefusals();
        bookRows();
        looked();
        lookedAtWhatIsMissing();
        end();
    }

    static void planRefusals() {
        run("25: NONE: what, beyond 0 .. 2", ROW_OF_TWO, "plan(-2, 0) = NONE; plan(3, 0) = NONE; plan(MIN, 0) = NONE; plan(MAX, 0) = NONE; count(2) = 0");
        run("25: NONE: FIELD n, 10 times the CELL and the number", ROW_OF_TWO, "plan(0, 0) = 1; plan(0, 1) = 2; plan(0, 2) = NONE; plan(0, 9) = NONE; plan(0, 10) = NONE; plan(0, 20) = 3; plan(0, 21) = 4; plan(0, 22) = NONE; plan(0, 30) = NONE; plan(0, 50) = NONE");
        run("25: NONE: FIELD n below 0", ROW_OF_TWO, "plan(0, -1) = NONE; plan(0, -9) = NONE; plan(0, -10) = NONE; plan(0, -5) = NONE; plan(0, MIN) = NONE; plan(0, MAX) = NONE");
        run("25: NONE: FIELD n of a great number", ROW_OF_TWO, "plan(0, 240) = NONE; plan(0, 320) = NONE; plan(0, 321) = NONE; plan(0, 256) = NONE; count(2) = 0");
        run("25: FIELD 235, the last there can be", times(23, "cell(0, 0, 0)"), "cell(2, 0, 6) = 23; plan(0, 236) = NONE; plan(0, 235) = 1; plan(0, 229) = NONE; plan(0, 240) = NONE");
        run("25: NONE: ROOT n, beyond 0 .. 3", ROW_OF_TWO, "plan(1, -1) = NONE; plan(1, 4) = NONE; plan(1, MIN) = NONE; plan(1, MAX) = NONE; plan(1, 0) = 1; plan(1, 3) = 2");
        run("25: NONE: TAG of CELL n", ROW_OF_TWO, "plan(2, -1) = NONE; plan(2, 5) = NONE; plan(2, 24) = NONE; plan(2, 32) = NONE; plan(2, MIN) = NONE; plan(2, MAX) = NONE; plan(2, 0) = 1; plan(2, 4) = 2");
        run("25: NONE ahead of FULL", ROW_OF_TWO, times(10, "plan(1, 3) = @"), "plan(3, 0) = NONE; plan(-2, 0) = NONE; plan(0, 2) = NONE; plan(1, 4) = NONE; plan(2, 5) = NONE; plan(2, 4) = FULL");
    }

    static void planRows() {
        run("25: 10 rows at most", ROW_OF_TWO, times(9, "plan(1, 1) = @"), "count(2) = 9; plan(0, 0) = 10; plan(0, 1) = FULL; plan(1, 0) = FULL; plan(2, 0) = FULL; count(2) = 10; ends() = 0b11101");
        run("25: what -1: it is empty then, 0, whatever the rest is", ROW_OF_TWO, times(10, "plan(1, 0) = @"), "ends() = 0; plan(-1, MIN) = 0; count(2) = 0; ends() = 0b11111; plan(-1, MAX) = 0; plan(-1, 0) = 0; plan(0, 0) = 1");
        run("25: the same again is a row", ROW_OF_TWO, "plan(0, 0) = 1; plan(0, 0) = 2; count(2) = 2; ends() = 0b11101");
        run("25: while a MARKING runs", ROW_OF_TWO, "begin(0); plan(0, 0) = 1; plan(-1, 0) = 0; plan(1, 0) = 1; ends() = 0; told(0) = 1");
        run("25: no CELLS at all", "plan(0, 0) = NONE; plan(2, 0) = NONE; plan(1, 0) = 1; plan(1, 3) = 2; ends() = 0");
    }

    static void ends() {
        run("26: no rows: REACHED", "ends() = 0; cell(0, 0, 0); ends() = 0; root(3, 0); ends() = 1");
        run("26: the 10th row, too", ROW_OF_TWO, times(9, "plan(1, 3)"), "ends() = 0b11111; plan(1, 0) = 10; ends() = 0");
        run("26: FIELD n holds nothing", ROW_OF_TWO, "plan(0, 1) = 1; ends() = 0b00011; plan(0, 0) = 2; ends() = 0b00001; field(0, 1) = 2; told(10) = 0b11111");
        run("26: a FIELD that holds nothing, or isn't FOLLOWED", "cell(4, 0, 0); cell(3, 0, 0); hold(0, 0, 1); root(0, 0); plan(0, 0) = 1; plan(0, 10) = 2; ends() = 0b01");
        run("26: ROOT n holds nothing", ROW_OF_TWO, "root(1, 2); plan(1, 0) = 1; ends() = 0b11100; plan(1, 1) = 2; ends() = 0; told(15) = 0");
        run("26: TAG of CELL n is 0: of a HALF", "cell(6, 9, 0); cell(0, 0, 0); hold(0, 1, 1); root(0, 0); ends() = 0b11; plan(2, 0) = 1; ends() = 0b01; of(0, 1) = 9; plan(-1, 0); plan(2, 1) = 1; ends() = 0b11");
        run("26: by FIELDS as they are now, not as they were told", ROW_OF_TWO, "plan(0, 0) = 1; hold(0, 0, 2); ends() = 0b11101; hold(0, 1, 1); ends() = 0b00011");
        run("26: FIELD 235", times(22, "cell(0, 0, 0)"), "cell(0, 0, 0) = 22; cell(2, 0, 6) = 23; hold(23, 5, 22); root(0, 23); ends() = 12582912; plan(0, 235) = 1; ends() = 8388608");
    }

    static void endsOfWhatIsMissing() {
        run("26: a row whose CELL is missing now does nothing", SOME_GO, "plan(0, 20) = 1; plan(2, 3) = 2; plan(0, 31) = 3; begin(0); step(99); sweep() = 2; ends() = 0b0011; count(2) = 3");
        run("26: the other rows do", SOME_GO, "plan(0, 20) = 1; plan(0, 0) = 2; plan(2, 3) = 3; begin(0); step(99); sweep() = 2; ends() = 0b0001; plan(1, 0) = 4; ends() = 0");
        run("26: a ROOT's row isn't a CELL's", SOME_GO, "plan(1, 3) = 1; plan(1, 2) = 2; begin(0); step(99); sweep() = 2; ends() = 0b0011; root(2, 0); root(0, -1); ends() = 0");
        run("25: NONE: a CELL that is missing", SOME_GO, "plan(0, 20) = 1; begin(0); step(99); sweep() = 2; plan(0, 20) = NONE; plan(0, 30) = NONE; plan(2, 2) = NONE; plan(2, 3) = NONE; plan(0, 0) = 2; plan(2, 1) = 3");
    }

    static void bookRefusals() {
        run("27: NONE: the CELL", ROW_OF_TWO, "book(5, 0, 0) = NONE; book(-2, 0, 0) = NONE; book(-5, 0, 0) = NONE; book(24, 0, 0) = NONE; book(32, 0, 0) = NONE; book(MIN, 0, 0) = NONE; book(MAX, 0, 0) = NONE; count(3) = 0");
        run("27: NONE: i", ROW_OF_TWO, "book(0, -1, 0) = NONE; book(0, 2, 0) = NONE; book(0, MIN, 0) = NONE; book(0, MAX, 0) = NONE; book(1, 0, 0) = NONE; book(0, 1, 0) = 1");
        run("27: NONE: other", ROW_OF_TWO, "book(0, 0, 5) = NONE; book(0, 0, -2) = NONE; book(0, 0, -5) = NONE; book(0, 0, 32) = NONE; book(0, 0, MIN) = NONE; book(0, 0, MAX) = NONE; book(0, 0, -1) = 1; book(0, 0, 4) = 2");
        run("27: NONE ahead of FULL", ROW_OF_TWO, times(8, "book(0, 0, 1) = @"), "book(5, 0, 0) = NONE; book(0, 2, 0) = NONE; book(0, 0, 5) = NONE; book(0, 0, 0) = FULL");
        run("27: NONE: what is missing", SOME_GO, "begin(0); step(99); sweep() = 2; book(2, 0, 1) = NONE; book(0, 0, 2) = NONE; book(0, 0, 1) = 1");
    }

    static void bookRows() {
        run("27: 8 rows at most", ROW_OF_TWO, times(7, "book(0, 0, 1) = @"), "count(3) = 7; looked() = -5; book(0, 1, 1) = 8; looked() = 7; book(0, 1, 2) = FULL; book(0, 0, -1) = FULL; count(3) = 8; looked() = 7");
        run("27: CELL -1: it is empty then, 0, whatever the rest is", ROW_OF_TWO, times(8, "book(0, 0, 2) = @"), "looked() = 0; book(-1, MIN, MAX) = 0; count(3) = 0; looked() = -5; book(-1, 0, 0) = 0; book(0, 0, 1) = 1");
        run("27: while a MARKING runs", ROW_OF_TWO, "begin(0); book(0, 0, 1) = 1; looked() = -5; book(-1, 0, 0) = 0; book(0, 0, -1) = 1; looked() = 0; told(0) = 1");
        run("27: no CELLS at all", "book(0, 0, 0) = NONE; book(0, 0, -1) = NONE; book(-1, 9, 9) = 0; looked() = -5");
    }

    static void looked() {
        run("28: -5: no rows, or none that is otherwise", ROW_OF_TWO, "looked() = -5; book(0, 0, 1) = 1; looked() = -5; book(0, 1, 2) = 2; looked() = -5");
        run("28: the number, from 0", ROW_OF_TWO, "book(0, 0, 2) = 1; looked() = 0; book(0, 0, 1) = 2; looked() = 0");
        run("28: the first of these rows", ROW_OF_TWO, "book(0, 0, 1); book(0, 1, 1); book(2, 0, 1); looked() = 1; hold(0, 1, 1); looked() = 2; hold(2, 0, 1); looked() = -5; hold(0, 0, -1); looked() = 0");
        run("28: nothing, -1, is nothing", "cell(3, 0, 0); book(0, 0, -1) = 1; looked() = -5; hold(0, 0, 0); looked() = 0; hold(0, 0, -1); looked() = -5");
        run("28: CELL 0 is not nothing", "cell(3, 0, 0); book(0, 0, 0) = 1; looked() = 0; hold(0, 0, 0); looked() = -5");
        run("28: the last FIELD of the last CELL", times(23, "cell(0, 0, 0)"), "cell(2, 0, 6) = 23; book(23, 5, 23) = 1; looked() = 0; hold(23, 5, 23); looked() = -5");
    }

    static void lookedAtWhatIsMissing() {
        run("28: a CELL that is missing now is otherwise, whatever it held", SOME_GO, "book(0, 0, 1); book(2, 0, 1); looked() = -5; begin(0); step(99); looked() = -5; sweep() = 2; looked() = 1; book(-1, 0, 0); looked() = -5");
        run("28: a CELL that is missing now is otherwise, also where it was to hold nothing", SOME_GO, "book(3, 1, -1); looked() = -5; begin(0); step(99); sweep() = 2; looked() = 0");
        run("28: what held a missing one holds nothing now", "cell(4, 0, 0); cell(0, 0, 0); hold(0, 0, 1); root(0, 0); book(0, 0, 1) = 1; looked() = -5; begin(0); step(99); sweep() = 1; looked() = 0; book(-1, 0, 0); book(0, 0, -1); looked() = -5");
        run("28: it is as it was when all is as THE IMAGE", SOME_GO, "book(2, 0, 1); image() = 4; begin(0); step(99); sweep() = 2; looked() = 0; undo() = 4; looked() = -5; count(3) = 1");
    }
}
