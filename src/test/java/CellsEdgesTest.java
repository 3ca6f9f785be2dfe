/** Promises 1 to 9 and the terms that they stand on, at their boundaries: each run is one sentence of the document. */
final class CellsEdgesTest extends Script {
    /** A chain of boxes 0, 1, 2 and an atom 3, of which 1 and 2 have a turned field: it is at 3. */
    private static final String TURNED = "'<<<1>>>' build(0) = 4; begin(1) = 4; step(4) = 4;";
    /** Six cells of which 0, 3 and 5 are missing: an atom, a box that holds the next one, a row of two that holds 1 and 4. */
    private static final String SWEPT = "cell(0, 0, 0); cell(3, 0, 0); cell(2, 0, 2); cell(3, 0, 0); cell(0, 7, 0); cell(4, 0, 0);"
        + "hold(1, 0, 2); hold(2, 0, 1); hold(2, 1, 4); hold(3, 0, 2); hold(5, 0, 1); root(0, 1); begin(0); step(99); sweep() = 3;";

    public static void main(String[] args) {
        aNewObject();
        cellNumbers();
        layouts();
        tags();
        fieldNumbers();
        followed();
        missingForGood();
        roots();
        cellRefusals();
        ofEdges();
        ofAsksByFieldsAsTheyAre();
        farKeepsCut();
        bits();
        fieldAndRaw();
        holdRefusals();
        tagRefusals();
        rootRefusals();
        pinEdges();
        end();
    }

    static void aNewObject() {
        run("1: no CELLS", "count(0) = 0; told(13) = 0; of(0, 0) = NONE; field(0, 0) = NONE; raw(0, 0) = NONE; taken(0, 0) = NOTHING");
        run("1: no MARKING runs, and it isn't CLEAN", "told(0) = 0; told(14) = 0; step(0) = STATE; leave() = STATE; sweep() = STATE");
        run("1: AT none, BACK none", "told(1) = -5; told(2) = -5; on(0, 0) = -5; on(400, 1) = -5");
        run("1: STEPS, TURNED, PUSHED, OFF, DEEPEST are 0", "told(3) = 0; told(4) = 0; told(5) = 0; told(6) = 0; told(7) = 0");
        run("1: ROOTS hold nothing at first", "told(15) = -5; told(16) = -5; told(17) = -5; told(18) = -5; told(10) = 0");
        run("1: nothing is SEEN, no PLAN, no BOOK, no TEXT", "count(1) = 0; count(2) = 0; count(3) = 0; count(4) = 0; looked() = -5; ends() = 0");
        run("1: there is no IMAGE", "undo() = STATE; cell(0, 0, 0) = 0; undo() = STATE");
        run("1: TAPES hold nothing at first", "item(0, 0, 0) = NOTHING; item(5, 0, 0) = NOTHING; read(0, 0) = NO; read(5, 0) = NO");
    }

    static void cellNumbers() {
        run("CELLS 0 .. 23", times(23, "cell(0, 0, 0) = #"), "of(23, 0) = NONE; cell(3, 5, 0) = 23; of(23, 1) = 5; of(24, 0) = NONE");
        run("2: FULL: 24 came", times(24, "cell(3, 0, 0) = #"), "cell(0, 0, 0) = FULL; count(0) = 24; told(13) = 16777215; cell(6, 9, 0) = FULL");
        run("no other number is a CELL's: no bits come round", times(24, "cell(3, 1, 0) = #"),
            "of(-1, 1) = NONE; of(-8, 1) = NONE; of(24, 1) = NONE; of(31, 1) = NONE; of(32, 1) = NONE; of(33, 1) = NONE; of(55, 1) = NONE;"
            + "of(64, 1) = NONE; of(-32, 1) = NONE; of(-9, 1) = NONE; of(256, 1) = NONE; of(MIN, 1) = NONE; of(MAX, 1) = NONE");
        run("nor where it is what a FIELD or a ROOT holds", times(24, "cell(3, 1, 0) = #"),
            "hold(0, 0, 24) = NONE; hold(0, 0, 32) = NONE; hold(0, 0, -2) = NONE; hold(0, 0, -5) = NONE; hold(0, 0, -32) = NONE; hold(0, 0, 23) = -5;"
            + "root(0, 24) = NONE; root(0, 32) = NONE; root(0, -2) = NONE; root(0, -5) = NONE; root(0, -32) = NONE; root(0, 23) = -5");
    }

    static void layouts() {
        run("2: NONE: layout, beyond 0 .. 6", "cell(-1, 0, 0) = NONE; cell(7, 0, 0) = NONE; cell(MIN, 0, 0) = NONE; cell(MAX, 0, 0) = NONE; count(0) = 0");
        run("2: each LAYOUT 0 .. 6", times(7, "cell(#, 0, 2) = #; of(#, 0) = #"), "count(0) = 7");
        run("0 ATOM: no FIELDS", "cell(0, 0, 3) = 0; of(0, 2) = 0; field(0, 0) = NONE; raw(0, 0) = NONE; hold(0, 0, 0) = NONE");
        run("1 PAIR: two", "cell(1, 0, 3) = 0; of(0, 2) = 2; field(0, 0) = -5; field(0, 1) = -5; field(0, 2) = NONE; hold(0, 1, 0) = -5; hold(0, 2, 0) = NONE");
        run("3 BOX: one", "cell(3, 0, 3) = 0; of(0, 2) = 1; field(0, 0) = -5; field(0, 1) = NONE; hold(0, 0, 0) = -5; hold(0, 1, 0) = NONE");
        run("4 WEAK under BOX: one", "cell(4, 0, 3) = 0; of(0, 2) = 1; field(0, 0) = -5; field(0, 1) = NONE; hold(0, 0, 0) = -5; hold(0, 1, 0) = NONE");
        run("6 HALF under PAIR: two", "cell(6, 0, 3) = 0; of(0, 2) = 2; field(0, 1) = -5; field(0, 2) = NONE; hold(0, 1, 0) = -5; hold(0, 2, 0) = NONE");
        for (int layout : new int[] {ROW, TABLE}) {
            for (int n = 0; n <= 6; n++) {
                String fields = times(n, "field(0, #) = -5; raw(0, #) = -5; hold(0, #, 0) = -5; field(0, #) = 0;");
                run("a ROW or TABLE: n, 0 .. 6", "cell(" + layout + ", 0, " + n + ") = 0; of(0, 2) = " + n, fields,
                    "field(0, " + n + ") = NONE; raw(0, " + n + ") = NONE; hold(0, " + n + ", 0) = NONE; of(0, 7) = " + n);
            }
            String of = "cell(" + layout + ", 0, ";
            run("2: BAD: n, by a ROW or TABLE", of + "-1) = BAD;" + of + "7) = BAD;" + of + "MIN) = BAD;" + of + "MAX) = BAD;" + of + "-5) = BAD; count(0) = 0");
        }
        for (int layout : new int[] {ATOM, PAIR, BOX, WEAK, HALF}) {
            String of = "cell(" + layout + ", 0, ";
            run("2: n does not matter else", of + "-1) = 0;" + of + "7) = 1;" + of + "MIN) = 2;" + of + "MAX) = 3; of(0, 2); of(3, 2)");
        }
    }

    static void tags() {
        run("2: BAD: tag, beyond 0 .. 9", "cell(0, -1, 0) = BAD; cell(0, 10, 0) = BAD; cell(0, MIN, 0) = BAD; cell(0, MAX, 0) = BAD; count(0) = 0");
        run("a TAG is 0 .. 9", times(10, "cell(3, #, 0) = #; of(#, 1) = #"));
        run("7: TAG n, 0 .. 9: what it was", "cell(0, 5, 0) = 0; tag(0, 0) = 5; tag(0, 1) = 0; tag(0, 8) = 1; tag(0, 9) = 8; tag(0, 9) = 9; of(0, 1) = 9");
        run("7: BAD, beyond 0 .. 9", "cell(0, 5, 0) = 0; tag(0, -1) = BAD; tag(0, 10) = BAD; tag(0, MIN) = BAD; tag(0, MAX) = BAD; of(0, 1) = 5");
    }

    static void fieldNumbers() {
        String two = "cell(2, 0, 6) = 0; cell(2, 0, 6) = 1; hold(1, 0, 1) = -5; hold(0, 5, 0) = -5;";
        run("4: NONE: no FIELD ahead of the first or behind the last, not the next CELL's", two,
            "field(0, 6) = NONE; field(1, -1) = NONE; field(0, 5) = 0; field(1, 0) = 1; field(1, 6) = NONE; field(0, -1) = NONE; field(0, MIN) = NONE; field(0, MAX) = NONE");
        run("5: NONE, likewise", two,
            "raw(0, 6) = NONE; raw(1, -1) = NONE; raw(0, 5) = 0; raw(1, 0) = 1; raw(1, 6) = NONE; raw(0, -1) = NONE; raw(0, MIN) = NONE; raw(0, MAX) = NONE");
        run("6: NONE, likewise", two,
            "hold(0, 6, 0) = NONE; hold(1, -1, 0) = NONE; hold(1, 6, 0) = NONE; hold(0, MIN, 0) = NONE; hold(0, MAX, 0) = NONE; hold(0, 5, 1) = 0; hold(1, 0, 0) = 1");
        run("27: NONE, likewise", two, "book(0, 6, 0) = NONE; book(1, -1, 0) = NONE; book(1, 6, 0) = NONE; book(0, 5, 0) = 1; book(1, 0, 0) = 2");
        run("25: NONE, likewise", two, "plan(0, 6) = NONE; plan(0, 9) = NONE; plan(0, -1) = NONE; plan(0, 16) = NONE; plan(0, 5) = 1; plan(0, 10) = 2; plan(0, 15) = 3; plan(0, 20) = NONE");
    }

    static void followed() {
        String six = times(6, "cell(0, 0, 0) = #");
        String all = times(6, "hold(6, #, #)");
        run("FOLLOWED: all of a ROW", six, "cell(2, 0, 6) = 6;", all, "of(6, 9) = 0b1111111; root(0, 6); begin(0); step(99); told(8) = 0b1111111");
        run("FOLLOWED: of a TABLE those by odd numbers alone", six, "cell(5, 1, 6) = 6;", all, "of(6, 9) = 0b1101010; root(0, 6); begin(0); step(99); told(8) = 0b1101010");
        run("FOLLOWED: of a TABLE of one FIELD none", "cell(0, 0, 0); cell(5, 0, 1) = 1; hold(1, 0, 0); of(1, 9) = 0b10");
        run("FOLLOWED: of a TABLE of two the last", "cell(0, 0, 0); cell(0, 0, 0); cell(5, 0, 2); hold(2, 0, 0); hold(2, 1, 1); of(2, 9) = 0b110");
        run("FOLLOWED: of a WEAK none", "cell(0, 0, 0); cell(4, 1, 0); hold(1, 0, 0); of(1, 9) = 0b10; root(0, 1); begin(0); step(99); told(8) = 0b10");
        run("FOLLOWED: of a BOX", "cell(0, 0, 0); cell(3, 0, 0); hold(1, 0, 0); of(1, 9) = 0b11; root(0, 1); begin(0); step(99); told(8) = 0b11");
        run("FOLLOWED: both of a PAIR, whatever its TAG is", "cell(0, 0, 0); cell(0, 0, 0); cell(1, 4, 0); hold(2, 0, 0); hold(2, 1, 1); of(2, 9) = 0b111");
        for (int tag = 0; tag < 10; tag++) {
            String due = tag % 2 == 1 ? "0b111" : "0b011";
            String half = "cell(6, " + tag + ", 0) = 0; cell(0, 0, 0); cell(0, 0, 0); hold(0, 0, 1); hold(0, 1, 2); root(0, 0);";
            run("FOLLOWED: of a HALF the second one only if its TAG is odd", half, "of(0, 9) = " + due, "told(10) = " + due, "begin(8); step(99); told(8) = " + due);
            run("FOLLOWED: the TAG of a CELL that a HALF holds is not its own", half, "tag(1, 1); tag(2, 1); of(0, 9) = " + due);
        }
    }

    static void missingForGood() {
        run("a CELL that was swept is missing for good", SWEPT, "of(0, 0) = NONE; of(3, 0) = NONE; of(5, 0) = NONE; told(13) = 0b010110; of(1, 0) = 3",
            "begin(0) = 3; step(99); sweep() = 0; told(13) = 0b010110; of(0, 0) = NONE; count(0) = 6");
        run("its number isn't given again", SWEPT, "cell(0, 0, 0) = 6; cell(0, 0, 0) = 7; told(13) = 0b11010110");
        run("its number isn't given again, by a text either", SWEPT, "'(1.2)' build(1) = 3; told(16) = 6; told(13) = 0b111010110");
        run("2: FULL, though all are missing", times(24, "cell(0, 0, 0) = #"), "begin(0) = 24; step(99) = 5; sweep() = 24; told(13) = 0; cell(0, 0, 0) = FULL; count(0) = 24; begin(0) = 0");
        run("11: FULL, though all are missing", times(24, "cell(0, 0, 0)"), "begin(0); step(99); sweep() = 24", "'1' build(0) = FULL", "'~' build(0) = 0");
        run("a missing CELL is none: 3 .. 9", SWEPT, "of(0, 0) = NONE; of(3, 12) = NONE; field(3, 0) = NONE; raw(5, 0) = NONE; hold(3, 0, 1) = NONE; hold(1, 0, 3) = NONE;"
            + "tag(0, 0) = NONE; root(0, 0) = NONE; pin(0, true) = NONE; pin(5, false) = NONE");
        run("a missing CELL is none: 20 .. 32", SWEPT, "see(0, 0, true) = NONE; can(0, 0, 0) = NONE; odds(0, 0) = NO; plan(0, 30) = NONE; plan(2, 0) = NONE;"
            + "book(3, 0, -1) = NONE; book(1, 0, 0) = NONE; taken(0, 0) = NOTHING; taken(5, 3) = NOTHING; fits(0) = 0b010110");
        run("a missing CELL holds nothing", SWEPT, "of(1, 7) = 1; of(2, 7) = 1; of(4, 7) = 1");
    }

    static void roots() {
        run("ROOTS 0 .. 3", "cell(0, 0, 0); root(-1, 0) = NONE; root(4, 0) = NONE; root(MIN, 0) = NONE; root(MAX, 0) = NONE; told(10) = 0",
            "root(0, 0) = -5; root(3, 0) = -5; told(15) = 0; told(16) = -5; told(17) = -5; told(18) = 0");
        run("8: nothing is held, or one that is there", "cell(0, 0, 0); cell(0, 0, 0); root(1, -1) = -5; root(1, 2) = NONE; root(1, -2) = NONE; root(1, 1) = -5; root(1, 0) = 1; root(1, -1) = 0; root(1, -1) = -5");
        run("8: ROOTS may hold the same", "cell(0, 0, 0); root(0, 0) = -5; root(1, 0) = -5; root(0, -1) = 0; told(16) = 0; told(10) = 1");
        run("8: no CELL by a great number", "cell(0, 0, 0); root(0, 32) = NONE; root(0, MIN) = NONE; root(0, MAX) = NONE; told(15) = -5");
    }

    static void cellRefusals() {
        run("2: NONE ahead of BAD", "cell(7, 10, 7) = NONE; cell(-1, -1, -1) = NONE");
        run("2: NONE ahead of STATE", "begin(0); cell(7, 0, 0) = NONE; cell(-1, 0, 0) = NONE");
        run("2: BAD ahead of STATE", "begin(0); cell(0, 10, 0) = BAD; cell(2, 0, 7) = BAD; cell(5, 0, -1) = BAD; cell(0, 0, 0) = STATE");
        run("2: STATE ahead of FULL", times(24, "cell(0, 0, 0)"), "begin(0); cell(0, 0, 0) = STATE; leave(); cell(0, 0, 0) = FULL");
        run("2: NONE and BAD ahead of FULL", times(24, "cell(0, 0, 0)"), "cell(7, 0, 0) = NONE; cell(0, 10, 0) = BAD; cell(2, 0, 7) = BAD; cell(2, 0, 6) = FULL");
        run("2: STATE no more, the MARKING being OVER", "begin(0); cell(0, 0, 0) = STATE; step(4) = 4; cell(0, 0, 0) = STATE; step(1) = 1; cell(0, 0, 0) = 0");
    }

    static void ofEdges() {
        run("3: NONE: what, beyond 0 .. 12", "cell(3, 0, 0); of(0, -1) = NONE; of(0, 13) = NONE; of(0, 0) = 3; of(0, 12) = 1; of(0, MIN) = NONE; of(0, MAX) = NONE");
        run("3: NONE: the CELL, whatever is asked", "cell(0, 0, 0);" + times(13, "of(1, #) = NONE; of(-1, #) = NONE"));
        run("3: COUNT 0, none MARKED, LATER, PINNED at first", "cell(3, 0, 0); of(0, 3) = 0; of(0, 4) = 0; of(0, 5) = 0; of(0, 6) = 0");
        run("3: COUNT up to the number of its FIELDS", "'(1.2)' build(0) = 3; begin(8); step(3) = 3; of(0, 4) = 1; step(2) = 2; of(0, 4) = 2; step(1); of(0, 4) = 2; told(1) = -5");
        run("3: MARKED as it comes AT the CELL, no step ahead", "'<1>' build(0); begin(0); of(0, 3) = 0; step(1); of(0, 3) = 1; of(1, 3) = 0; step(1); of(1, 3) = 1");
        run("3: a CELL that came behind a MARKING isn't MARKED", "'1' build(0); begin(0); step(99); cell(0, 0, 0) = 1; of(0, 3) = 1; of(1, 3) = 0; of(1, 4) = 0; of(1, 5) = 0");
        run("3: COUNT stays when another MARKING begins, till it is MARKED", "'<1>' build(0); begin(0); step(99); of(0, 4) = 1; begin(0); of(0, 4) = 1; of(0, 3) = 0; step(1); of(0, 4) = 0");
        run("3: HOLDERS: FOLLOWED or not, as often as they hold it, not by ROOTS", "cell(4, 0, 0); cell(5, 0, 3); cell(0, 0, 0); of(2, 7) = 0; root(0, 2); of(2, 7) = 0;"
            + "hold(0, 0, 2); of(2, 7) = 1; hold(1, 0, 2); hold(1, 2, 2); of(2, 7) = 3; hold(1, 1, 2); of(2, 7) = 4; of(0, 7) = 0; hold(1, 0, 1); of(1, 7) = 1; of(2, 7) = 3");
    }

    static void ofAsksByFieldsAsTheyAre() {
        run("HOLDERS by FIELDS as they are when none is turned", TURNED, "raw(2, 0) = 1; raw(1, 0) = -5; of(0, 7) = 0; of(1, 7) = 1; of(2, 7) = 1; of(3, 7) = 1");
        run("FAR likewise", TURNED, "of(0, 8) = 0; of(1, 8) = 1; of(2, 8) = 2; of(3, 8) = 3");
        run("REACH likewise", TURNED, "of(0, 9) = 0b1111; of(1, 9) = 0b1110; of(2, 9) = 0b1100; of(3, 9) = 0b1000; told(10) = 0b1111");
        run("KEEPS likewise", TURNED, "of(0, 10) = 0b1111; of(1, 10) = 0b1110; of(2, 10) = 0b1100; of(3, 10) = 0b1000");
        run("CUT likewise", TURNED, "of(0, 11) = -5; of(1, 11) = 0; of(2, 11) = 0; of(3, 11) = 0");
        run("ODDS likewise", TURNED, "odds(0, 0) = 1; odds(0, 1) = 1; odds(1, 0) = 2; odds(1, 1) = 3; odds(2, 0) = 1; odds(2, 1) = 3; odds(3, 0) = 0; odds(3, 1) = 1");
        run("MEAN likewise", TURNED, "mean(0) = 3; mean(1) = 2");
        run("ENDS likewise", TURNED, "plan(0, 20) = 1; ends() = 0b0111; plan(0, 10) = 2; ends() = 0b0011");
        run("LOOKED at likewise", TURNED, "book(1, 0, 2) = 1; book(2, 0, 3) = 2; looked() = -5; book(2, 0, 1) = 3; looked() = 2");
    }

    static void farKeepsCut() {
        run("8: FAR 0 of what a ROOT holds, by any ROOT", "'<<1>>' build(0); root(3, 2); of(0, 8) = 0; of(1, 8) = 1; of(2, 8) = 0");
        run("8: FAR, the fewest FIELDS", "'[<<1>>,~]' build(0); hold(0, 1, 3); of(3, 8) = 1; hold(0, 1, 2); of(3, 8) = 2; hold(0, 1, -1); of(3, 8) = 3");
        run("8: FAR up to 23", times(24, "cell(3, 0, 0)"), times(23, "hold(#, 0, @)"), "root(2, 0);",
            times(24, "of(#, 8) = #"), "of(0, 9) = 16777215; of(0, 10) = 16777215; of(23, 10) = 8388608; of(23, 11) = 0; hold(22, 0, -1); of(23, 8) = -5; of(22, 8) = 22");
        run("8: -5: it is not REACHED", "cell(3, 0, 0); cell(4, 0, 0); cell(0, 0, 0); hold(0, 0, 1); hold(1, 0, 2); of(0, 8) = -5; root(0, 0); of(0, 8) = 0; of(1, 8) = 1; of(2, 8) = -5");
        run("9: REACH of one that is not REACHED", "cell(3, 0, 0); cell(3, 0, 0); hold(0, 0, 1); of(0, 9) = 0b11; of(1, 9) = 0b10; told(10) = 0");
        run("9: REACH round and round", "cell(3, 0, 0); cell(3, 0, 0); hold(0, 0, 1); hold(1, 0, 0); of(0, 9) = 0b11; of(1, 9) = 0b11; hold(1, 0, 1); of(1, 9) = 0b10");
        run("10: KEEPS: itself, too", "'1' build(0); of(0, 10) = 1");
        run("10: KEEPS: none, if it isn't REACHED", "'<1>' build(0); root(0, -1) = 0; of(0, 10) = 0; of(1, 10) = 0; root(0, 1); of(0, 10) = 0; of(1, 10) = 0b10");
        run("10: KEEPS: were it not held by ROOTS either", "'<1>' build(0); root(1, 1); of(1, 10) = 0b10; of(0, 10) = 0b01");
        run("10: KEEPS: not what is come to otherwise", "'[<1>,<2>]' build(0); hold(3, 0, 2); of(1, 10) = 0b00010; of(3, 10) = 0b01000; hold(3, 0, 4); of(1, 10) = 0b00110");
        run("10: KEEPS: a way back to itself doesn't keep it", "cell(3, 0, 0); cell(3, 0, 0); hold(0, 0, 1); hold(1, 0, 0); root(0, 0); of(0, 10) = 0b11; of(1, 10) = 0b10");
        run("11: CUT -5: a ROOT holds it", "'<1>' build(0); of(0, 11) = -5; of(1, 11) = 0; root(3, 1); of(1, 11) = -5");
        run("11: CUT -5: two FIELDS hold it", "'(1.~)' build(0); of(1, 11) = 0; hold(0, 1, 1); of(1, 11) = -5; hold(0, 0, -1); of(1, 11) = 1");
        run("11: CUT -5: it isn't REACHED", "'<1>' build(0); root(0, -1); of(1, 11) = -5");
        run("11: CUT, 10 times the CELL, and the number", times(22, "cell(0, 0, 0)"), "cell(2, 0, 6) = 22; cell(0, 0, 0) = 23; hold(22, 5, 23); root(1, 22); of(23, 11) = 225");
        run("11: CUT, the first by CELLS, not by the way", "cell(3, 0, 0); cell(3, 0, 0); cell(3, 0, 0); hold(2, 0, 1); hold(1, 0, 0); root(0, 2); of(0, 11) = 10; of(1, 11) = 20");
    }

    static void bits() {
        int[] due = {1, 1, 2, 3, 3, 4, 4};
        for (int n = 0; n <= 6; n++) {
            run("12: BITS of a ROW of n", "cell(2, 0, " + n + "); of(0, 12) = " + due[n] + "; cell(5, 0, " + n + "); of(1, 12) = " + due[n]);
        }
        run("12: BITS of the others", "cell(0, 0, 0); cell(1, 0, 0); cell(3, 0, 0); cell(4, 0, 0); cell(6, 0, 0); of(0, 12) = 1; of(1, 12) = 2; of(2, 12) = 1; of(3, 12) = 1; of(4, 12) = 2");
    }

    static void fieldAndRaw() {
        run("4: what it holds when none is turned", TURNED, "field(0, 0) = 1; field(1, 0) = 2; field(2, 0) = 3; field(3, 0) = NONE");
        run("5: what it holds now, turned or not", TURNED, "raw(0, 0) = 1; raw(1, 0) = -5; raw(2, 0) = 1; raw(3, 0) = NONE");
        run("5: turned back as it comes up again", TURNED, "step(1) = 1; raw(2, 0) = 3; raw(1, 0) = -5; step(1) = 1; raw(1, 0) = 2");
        run("5: the FIELD by COUNT alone is turned", "'[1,<2>,3]' build(0); begin(0); step(5); of(0, 4) = 1; raw(0, 0) = 1; raw(0, 1) = -5; raw(0, 2) = 4; raw(2, 0) = 0; field(0, 1) = 2");
        run("4, 5: NONE", "cell(3, 0, 0); field(1, 0) = NONE; raw(1, 0) = NONE; field(-1, 0) = NONE; raw(-1, 0) = NONE; field(24, 0) = NONE; raw(32, 0) = NONE; field(MIN, 0) = NONE; raw(MAX, 0) = NONE");
    }

    static void holdRefusals() {
        run("6: -1: nothing; what it held, -5", "cell(3, 0, 0); hold(0, 0, -1) = -5; hold(0, 0, 0) = -5; hold(0, 0, -1) = 0; hold(0, 0, -1) = -5");
        run("6: NONE: no such CELL, FIELD, other", "'(1.2)' build(0); hold(3, 0, 0) = NONE; hold(-1, 0, 0) = NONE; hold(0, 2, 0) = NONE; hold(0, -1, 0) = NONE; hold(0, 0, 3) = NONE; hold(0, 0, -2) = NONE; hold(1, 0, 0) = NONE");
        run("6: NONE at the ends of all numbers", "'(1.2)' build(0); hold(MIN, 0, 0) = NONE; hold(MAX, 0, 0) = NONE; hold(0, MIN, 0) = NONE; hold(0, MAX, 0) = NONE; hold(0, 0, MIN) = NONE; hold(0, 0, MAX) = NONE");
        run("6: NONE ahead of STATE", "'(1.2)' build(0); begin(0); hold(3, 0, 0) = NONE; hold(0, 2, 0) = NONE; hold(0, 0, 3) = NONE; hold(0, 0, 1) = STATE; hold(0, 0, -1) = STATE");
        run("6: STATE: till the MARKING is OVER", "'1' build(0); cell(3, 0, 0) = 1; begin(0); step(5) = 5; hold(1, 0, 0) = STATE; step(1) = 1; told(0) = 0; hold(1, 0, 0) = -5");
    }

    static void tagRefusals() {
        run("7: NONE", "cell(0, 3, 0); tag(1, 0) = NONE; tag(-1, 0) = NONE; tag(24, 0) = NONE; tag(32, 0) = NONE; tag(MIN, 0) = NONE; tag(MAX, 0) = NONE");
        run("7: NONE ahead of BAD and STATE", "cell(0, 3, 0); tag(1, 10) = NONE; begin(0); tag(1, 0) = NONE; tag(1, -1) = NONE");
        run("7: BAD ahead of STATE", "cell(0, 3, 0); begin(0); tag(0, 10) = BAD; tag(0, -1) = BAD; tag(0, 0) = STATE; tag(0, 3) = STATE; of(0, 1) = 3");
        run("7: STATE: till the MARKING is BROKEN OFF", "cell(0, 3, 0); begin(0); tag(0, 1) = STATE; leave() = 0; tag(0, 1) = 3");
    }

    static void rootRefusals() {
        run("8: NONE ahead of STATE", "cell(0, 0, 0); begin(0); root(4, 0) = NONE; root(-1, -1) = NONE; root(0, 1) = NONE; root(0, -2) = NONE; root(0, 0) = STATE; root(0, -1) = STATE; told(15) = -5");
        run("8: STATE: till the MARKING is BROKEN OFF", "cell(0, 0, 0); begin(0); root(0, 0) = STATE; leave() = 0; root(0, 0) = -5");
    }

    static void pinEdges() {
        run("9: whether it was", "cell(0, 0, 0); pin(0, false) = 0; pin(0, true) = 0; pin(0, true) = 1; of(0, 6) = 1; pin(0, false) = 1; pin(0, false) = 0; of(0, 6) = 0");
        run("9: NONE", "cell(0, 0, 0); pin(1, true) = NONE; pin(-1, true) = NONE; pin(24, true) = NONE; pin(32, true) = NONE; pin(MIN, true) = NONE; pin(MAX, false) = NONE; of(0, 6) = 0");
        run("9: STATE: it has a turned FIELD", TURNED, "pin(1, true) = STATE; pin(1, false) = STATE; pin(2, true) = STATE; pin(2, false) = STATE; of(1, 6) = 0");
        run("9: not of what is on the STACK, nor of what it is AT", TURNED, "pin(0, true) = 0; pin(3, true) = 0; pin(0, false) = 1; pin(3, false) = 1");
        run("9: not when it is turned back", TURNED, "step(1) = 1; pin(2, true) = 0; pin(1, true) = STATE; step(1) = 1; pin(1, true) = 0");
        run("9: not when it is BROKEN OFF", TURNED, "pin(2, true) = STATE; leave() = 2; pin(2, true) = 0; pin(1, true) = 0");
        run("9: of the last CELL alone", times(24, "cell(0, 0, 0)"), "pin(23, true) = 0; of(23, 6) = 1; of(22, 6) = 0; of(0, 6) = 0; pin(0, true) = 0; pin(23, false) = 1; of(0, 6) = 1");
        run("9: it stays PINNED when a MARKING begins, is OVER, is swept", "'1' build(0); pin(0, true); begin(0); of(0, 6) = 1; step(99); of(0, 6) = 1; sweep() = 0; of(0, 6) = 1");
        run("9: it is CLEAN still", "'1' build(0); begin(0); step(99); pin(0, true) = 0; told(14) = 1; sweep() = 0");
    }
}
