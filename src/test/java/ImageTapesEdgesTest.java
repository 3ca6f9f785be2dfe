/** Promises 29 to 37 and TAPES, at their boundaries: each run is one sentence of the document. */
final class ImageTapesEdgesTest extends Script {
    /** Boxes 0 and 1 and an atom 2, held by ROOT 0: all are MARKED. */
    private static final String MARKED = "cell(3, 0, 0); cell(3, 0, 0); cell(0, 0, 0); hold(0, 0, 1); hold(1, 0, 2); root(0, 0); begin(0); step(99);";
    private static final String[] ITEMS = {"0", "1", "-1", "2", "127", "128", "129", "255", "256", "257", "-127", "-128", "-129", "-256", "32767", "32768",
        "32769", "65535", "65536", "-32768", "-32769", "2147483647", "2147483648", "-2147483648", "-2147483649", "4294967295", "4294967296", "4294967297",
        "-4294967296", "9223372036854775807", "-9223372036854775807", "LONG_MIN"};

    public static void main(String[] args) {
        judgeRefusals();
        judgedNoCells();
        judgedTooEarly();
        judged();
        image();
        undo();
        taken();
        count();
        tape();
        tapeRefusals();
        itemsCutDown();
        itemRefusals();
        read();
        shift();
        shiftRefusals();
        end();
    }

    static void judgeRefusals() {
        run("29: NONE: tape, beyond 0 .. 5", MARKED, "judge(-1, 0) = NONE; judge(6, 0) = NONE; judge(MIN, 0) = NONE; judge(MAX, 0) = NONE; judge(0, 0) = 100; judge(5, 0) = 100");
        run("29: NONE, no CELLS having come", "judge(-1, 0) = NONE; judge(6, -1) = NONE; judge(5, 0) = -5");
        for (int sort = 0; sort < 4; sort++) {
            run("29: CAST: it is no row of booleans", MARKED, "tape(0, " + sort + ", 3); item(0, 0, 1); judge(0, 0) = CAST; judge(0, -1) = CAST; judge(0, 3) = CAST; judge(0, MIN) = CAST; judge(0, MAX) = CAST");
            run("29: CAST, no CELLS having come", "tape(5, " + sort + ", 0); judge(5, 0) = CAST; judge(5, -1) = CAST");
        }
        run("29: CAST no more, it holding nothing", MARKED, "tape(0, 3, 3); judge(0, 0) = CAST; tape(0, -1, 0); judge(0, 0) = 100; tape(0, 4, 3); judge(0, 0) = 0");
    }

    static void judgedNoCells() {
        run("29: -5: no CELLS came, wherever the place is", "tape(0, 4, 2); judge(0, 0) = -5; judge(0, 2) = -5; judge(0, 3) = -5; judge(0, -1) = -5; judge(0, MIN) = -5; judge(0, MAX) = -5");
        run("29: -5: no CELLS came, also if the TAPE holds nothing", "judge(0, 0) = -5; judge(5, -1) = -5; judge(5, MAX) = -5; tape(0, 4, 0); judge(0, 0) = -5");
        run("29: CELLS came, though all are missing", "cell(0, 0, 0); begin(0); step(99); sweep() = 1; judge(0, 0) = 100; tape(0, 4, 1); judge(0, 0) = -5; judge(0, 1) = 100; item(0, 0, 1); judge(0, 0) = 0");
    }

    static void judgedTooEarly() {
        run("29: 100: the TAPE holds nothing", MARKED, "judge(0, 0) = 100; judge(0, 1) = 100; judge(0, -1) = 100; judge(0, MAX) = 100");
        run("29: 100: the place is below 0", MARKED, "tape(0, 4, 60); judge(0, -1) = 100; judge(0, -2) = 100; judge(0, MIN) = 100; judge(0, 0) = 0");
        run("29: 100: the place is the row's end, or beyond", MARKED, "tape(0, 4, 3); judge(0, 3) = 100; judge(0, 4) = 100; judge(0, 60) = 100; judge(0, MAX) = 100; tape(1, 4, 0); judge(1, 0) = 100");
        run("29: 100 and how many were looked at", MARKED, "tape(0, 4, 3); item(0, 0, 1); item(0, 1, 1); item(0, 2, 1); judge(0, 0) = -5; judge(0, 1) = 102; judge(0, 2) = 101; judge(0, 3) = 100");
        run("29: the row ends with the last CELL, or one ahead of it", MARKED, "tape(0, 4, 3)", times(3, "item(0, #, 1)"), "judge(0, 0) = -5; tape(0, 4, 2)", times(2, "item(0, #, 1)"), "judge(0, 0) = 102");
        run("29: the first that is otherwise ahead of the row's end", MARKED, "tape(0, 4, 2); item(0, 0, 1); judge(0, 0) = 1; judge(0, 1) = 0");
        run("29: 123 of 24", times(24, "cell(0, 0, 0)"), "tape(0, 4, 60); judge(0, 36) = -5; judge(0, 37) = 123; judge(0, 59) = 101; judge(0, 60) = 100; judge(0, 0) = -5; begin(0); judge(0, 36) = -5");
        run("29: a row isn't the next TAPE's", MARKED, "tape(0, 4, 60); tape(1, 4, 60); item(0, 59, 1); item(1, 0, 1); item(1, 1, 1); judge(0, 59) = 101; judge(1, -1) = 100");
    }

    static void judged() {
        run("29: counted from 0 from that place on", MARKED, "tape(0, 4, 6); item(0, 2, 1); item(0, 3, 1); item(0, 4, 1); judge(0, 2) = -5; judge(0, 1) = 0; judge(0, 3) = 2; judge(0, 4) = 1; item(0, 4, 0); judge(0, 2) = 2");
        run("29: the last CELL is otherwise", times(24, "cell(0, 0, 0)"), "root(0, 23); begin(0); step(99); tape(0, 4, 24); judge(0, 0) = 23; item(0, 23, 1); judge(0, 0) = -5; item(0, 22, 1); judge(0, 0) = 22");
        run("29: those that came: missing ones aren't MARKED", "cell(0, 0, 0); cell(0, 0, 0); cell(0, 0, 0); root(0, 1); begin(0); step(99); sweep() = 2; begin(0); step(99); tape(0, 4, 3); judge(0, 0) = 1; item(0, 1, 1); judge(0, 0) = -5; item(0, 0, 1); judge(0, 0) = 0; item(0, 0, 0); item(0, 2, 1); judge(0, 0) = 2; tape(0, 4, 2); item(0, 1, 1); judge(0, 0) = 102");
        run("29: MARKED as it is now: while it runs, when it is BROKEN OFF, when it is swept", MARKED, "tape(0, 4, 3)", times(3, "item(0, #, 1)"), "judge(0, 0) = -5; begin(0); judge(0, 0) = 0; step(2); judge(0, 0) = 2; leave(); judge(0, 0) = 2; begin(0); step(99); judge(0, 0) = -5; sweep(); judge(0, 0) = 0");
        run("29: what is LATER is MARKED", "cell(3, 0, 0); cell(0, 0, 0); hold(0, 0, 1); root(0, 0); pin(0, true); begin(0); step(2); told(9) = 0b10; tape(3, 4, 2); item(3, 0, 1); judge(3, 0) = 1; item(3, 1, 1); judge(3, 0) = -5");
    }

    static void image() {
        run("30: how many CELLS are there", "image() = 0; cell(0, 0, 0); cell(0, 0, 0); image() = 2; root(0, 0); begin(0); image() = 2; step(99); sweep() = 1; image() = 1");
        run("30: all 24", times(24, "cell(0, 0, 0)"), "image() = 24; undo() = 24");
        run("30: the latest one is THE IMAGE", "cell(0, 1, 0); image() = 1; tag(0, 2); image() = 1; tag(0, 3); undo() = 1; of(0, 1) = 2; undo() = 1; of(0, 1) = 2");
        run("30: it changes nothing else", MARKED, "told(14) = 1; image() = 3; told(14) = 1; told(8) = 0b111; sweep() = 0");
    }

    static void undo() {
        run("31: STATE: there is none", "undo() = STATE; cell(0, 0, 0); undo() = STATE; count(0) = 1; begin(0); undo() = STATE; told(0) = 1");
        run("31: an IMAGE of no CELLS is one", "image() = 0; cell(0, 0, 0); undo() = 0; count(0) = 0; told(13) = 0; of(0, 0) = NONE; cell(3, 0, 0) = 0");
        run("31: it is there again and again", "cell(0, 0, 0); image() = 1; undo() = 1; cell(0, 0, 0) = 1; undo() = 1; undo() = 1; count(0) = 1; cell(0, 0, 0) = 1");
        run("31: CELLS with all that is theirs", "cell(3, 5, 0); cell(1, 6, 0); pin(0, true); hold(0, 0, 1); hold(1, 1, 0); image() = 2; hold(0, 0, -1); hold(1, 0, 1); tag(0, 0); pin(0, false); pin(1, true);"
            + "undo() = 2; field(0, 0) = 1; field(1, 0) = -5; field(1, 1) = 0; of(0, 1) = 5; of(0, 6) = 1; of(1, 6) = 0; of(1, 0) = 1");
        run("31: MARKED, LATER, COUNT", "'<<<1>>>' build(0); pin(1, true); begin(0); step(3); image() = 4; leave(); begin(8); step(99); undo() = 4; told(8) = 0b0111; told(9) = 0b0100; of(1, 4) = 1; of(2, 5) = 1; of(3, 4) = 0; told(0) = 1");
        run("31: which are there", MARKED, "cell(0, 0, 0) = 3; image() = 4; begin(0); step(99); sweep() = 1; of(3, 0) = NONE; undo() = 4; of(3, 0) = 0; told(13) = 0b1111");
        run("31: FIELDS that held what was swept", "cell(4, 0, 0); cell(0, 0, 0); hold(0, 0, 1); root(0, 0); image() = 2; begin(0); step(99); sweep() = 1; field(0, 0) = -5; undo() = 2; field(0, 0) = 1; of(1, 7) = 1");
        run("31: numbers are given again from where they were", "cell(0, 0, 0); image() = 1; cell(2, 0, 6) = 1; hold(1, 5, 0); pin(1, true); begin(0); step(99); sweep() = 2; undo() = 1; cell(2, 3, 6) = 1; field(1, 5) = -5; of(1, 6) = 0; of(1, 4) = 0; of(1, 3) = 0; of(1, 1) = 3");
        run("31: ROOTS", "cell(0, 0, 0); root(1, 0); image(); root(1, -1); root(3, 0); undo(); told(16) = 0; told(18) = -5");
        run("31: the MARKING and all its numbers, turned FIELDS too", "'<<<1>>>' build(0); begin(1); step(4); image() = 4; step(3); undo() = 4; told(0) = 1; told(1) = 3; told(2) = 2; told(3) = 4; told(4) = 2; told(5) = 1; told(7) = 3; told(12) = 1;"
            + "raw(1, 0) = -5; raw(2, 0) = 1; pin(2, true) = STATE; step(99); undo(); told(1) = 3; raw(2, 0) = 1; begin(0) = STATE; leave() = 2; undo(); step(8) = 8; told(0) = 0");
        run("31: TURNED, PUSHED, OFF, DEEPEST, others having come meanwhile", "'<<<1>>>' build(0); pin(2, true); begin(1); step(4); told(4) = 1; told(5) = 1; told(6) = 1; told(7) = 2; image() = 4; leave(); begin(8); step(99); told(4) = 0; told(5) = 3; told(6) = 0; told(7) = 3;"
            + "undo() = 4; told(3) = 4; told(4) = 1; told(5) = 1; told(6) = 1; told(7) = 2; leave(); begin(0); undo(); told(4) = 1; told(5) = 1; told(6) = 1; told(7) = 2; step(1) = 1; told(2) = -5; told(1) = 1");
        run("31: its LIMIT, its NEXT ROOT", "'<<1>>' build(0); begin(1); step(2); image(); leave(); begin(8); leave(); undo(); step(1); told(4) = 1; told(12) = 1; undo(); told(11) = 8", "'2' build(3) = STATE");
        run("31: that none runs", "cell(0, 0, 0); image() = 1; begin(0); step(2); undo() = 1; told(0) = 0; told(3) = 0; told(11) = 0; step(1) = STATE; cell(0, 0, 0) = 1");
        run("31: whether CLEAN: it is", MARKED, "image() = 3; sweep() = 0; undo() = 3; told(14) = 1; tag(0, 1); told(14) = 0; undo(); told(14) = 1; sweep() = 0");
        run("31: whether CLEAN: it isn't", "cell(0, 0, 0); image() = 1; begin(0); step(99); told(14) = 1; undo() = 1; told(14) = 0; sweep() = STATE");
        run("31: SEEN", "'<1>' build(0); see(1, 2, true); image(); see(-1, 0, true); see(0, 0, true); see(0, 1, true); fits(0) = 0; undo(); count(1) = 1; fits(0) = 0b11; see(1, 1, false) = 2; fits(0) = 0b01");
        run("31: the PLAN", "'<1>' build(0); plan(0, 0); image(); plan(-1, 0); plan(1, 0); plan(1, 1); undo(); count(2) = 1; ends() = 0b01");
        run("31: the BOOK", "'<1>' build(0); book(0, 0, 1); image(); book(-1, 0, 0); book(0, 0, -1); book(0, 0, -1); undo(); count(3) = 1; looked() = -5");
        run("31: not THE TEXT", "'12' image(); feed(51) = 3; undo(); count(4) = 3; build(0) = -11; undo(); count(4) = 0");
        run("31: not the TAPES", "tape(0, 3, 2); item(0, 0, 5); image(); item(0, 0, 6); tape(1, 0, 1); undo(); read(0, 0) = 6; read(1, 0) = 0; tape(0, -1, 0); undo(); read(0, 0) = NO");
    }

    static void taken() {
        String all = times(7, "cell(#, 0, 0)");
        run("32: BAD: k, beyond 0 .. 6", all, "taken(0, -1) = BAD; taken(0, 7) = BAD; taken(0, MIN) = BAD; taken(0, MAX) = BAD; taken(6, 6) = 6; taken(0, 0) = 0");
        run("32: NOTHING: no such CELL", all, "taken(7, 0) = NOTHING; taken(-1, 0) = NOTHING; taken(24, 0) = NOTHING; taken(32, 0) = NOTHING; taken(MIN, 0) = NOTHING; taken(MAX, 6) = NOTHING");
        run("32: BAD ahead of NOTHING", all, "taken(7, 7) = BAD; taken(-1, -1) = BAD; taken(MAX, MAX) = BAD");
        run("32: one of each LAYOUT", all, times(7, "taken(#, #) = #"));
        run("32: all are under ATOM", all, times(7, "taken(#, 0) = #"));
        run("32: WEAK under BOX, TABLE under ROW, HALF under PAIR", all, "taken(4, 3) = 4; taken(5, 2) = 5; taken(6, 1) = 6");
        run("32: CAST: not the other way round", all, "taken(3, 4) = CAST; taken(2, 5) = CAST; taken(1, 6) = CAST; taken(0, 1) = CAST; taken(0, 6) = CAST");
        run("32: CAST: of another one", all, "taken(4, 1) = CAST; taken(4, 2) = CAST; taken(5, 3) = CAST; taken(5, 1) = CAST; taken(6, 2) = CAST; taken(6, 3) = CAST; taken(1, 2) = CAST; taken(2, 3) = CAST; taken(3, 1) = CAST; taken(6, 5) = CAST");
        run("32: while a MARKING runs", all, "begin(0); taken(4, 3) = 4; taken(3, 4) = CAST; taken(7, 0) = NOTHING");
    }

    static void count() {
        run("33: BAD, beyond 0 .. 4", "count(-1) = BAD; count(5) = BAD; count(MIN) = BAD; count(MAX) = BAD; count(0) = 0; count(4) = 0");
        run("33: CELLS that came, missing ones too", "cell(0, 0, 0); cell(0, 0, 0); begin(0); step(99); sweep() = 2; count(0) = 2");
        run("33: each of them", MARKED, "see(0, 0, true); plan(1, 0); plan(1, 0); book(0, 0, 1); book(0, 0, 1); book(0, 0, 1)", "'1234' count(0) = 3; count(1) = 1; count(2) = 2; count(3) = 3; count(4) = 4");
        run("33: as many as there can be", times(24, "cell(3, 0, 0)"), times(5, "see(0, 0, true)"), times(10, "plan(1, 0)"), times(8, "book(0, 0, -1)"), times(100, "feed(0)"), "count(0) = 24; count(1) = 5; count(2) = 10; count(3) = 8; count(4) = 100");
    }

    static void tape() {
        run("34: TAPES 0 .. 5", times(6, "tape(#, 3, 1) = 1; item(#, 0, @) = 1"), times(6, "read(#, 0) = @"), "tape(6, 3, 1) = NONE; tape(-1, 3, 1) = NONE; tape(MIN, 3, 1) = NONE; tape(MAX, 3, 1) = NONE");
        for (int sort = 0; sort <= 4; sort++) {
            String of = "tape(2, " + sort + ", ";
            run("34: a row of n, 0 .. 60, all 0", of + "60) = 1; read(2, 0) = 0; read(2, 59) = 0; read(2, 60) = NO; item(2, 59, 1) = 1; item(2, 60, 1) = PLACE", of + "0) = 1; read(2, 0) = NO; item(2, 0, 1) = PLACE",
                of + "1) = 1; read(2, 0) = 0; read(2, 1) = NO", of + "60) = 1; read(2, 59) = 0");
        }
        run("34: sort -1: it holds nothing, n does not matter", "tape(0, 2, 3); tape(0, -1, MIN) = 1; item(0, 0, 0) = NOTHING; read(0, 0) = NO; tape(0, 2, 3); read(0, 0) = 0; tape(0, -1, MAX) = 1; tape(0, -1, 61) = 1; tape(0, -1, -1) = 1; item(0, 0, 0) = NOTHING");
        run("34: a TAPE that is told anew is all 0, of its new sort", "tape(0, 3, 2); item(0, 0, 300); item(0, 1, 300); tape(0, 0, 2) = 1; read(0, 0) = 0; read(0, 1) = 0; item(0, 1, 300); read(0, 1) = 44");
        run("34: no other TAPE changes", "tape(0, 3, 60); tape(1, 3, 60); tape(2, 3, 60); item(0, 59, 7); item(2, 0, 8); tape(1, 3, 60); read(0, 59) = 7; read(2, 0) = 8; tape(1, -1, 0); read(0, 59) = 7; read(2, 0) = 8");
    }

    static void tapeRefusals() {
        run("34: BAD: sort, beyond -1 .. 4", "tape(0, 5, 1) = BAD; tape(0, -2, 1) = BAD; tape(0, MIN, 1) = BAD; tape(0, MAX, 1) = BAD; read(0, 0) = NO");
        run("34: BAD: n above 60", "tape(0, 3, 2); item(0, 1, 9); tape(0, 0, 61) = BAD; tape(0, 4, MAX) = BAD; read(0, 1) = 9; tape(0, 0, 60) = 1");
        run("34: SIZE: n below 0", "tape(0, 3, 2); item(0, 1, 9); tape(0, 0, -1) = SIZE; tape(0, 4, MIN) = SIZE; read(0, 1) = 9; tape(0, 0, 0) = 1");
        run("34: NONE ahead of BAD and SIZE", "tape(6, 5, 61) = NONE; tape(-1, 0, -1) = NONE; tape(6, -1, 0) = NONE");
        run("34: BAD ahead of SIZE", "tape(0, 5, -1) = BAD; tape(0, -2, -1) = BAD; tape(0, 4, -1) = SIZE");
    }

    static void itemsCutDown() {
        for (String word : ITEMS) {
            long v = word.equals("LONG_MIN") ? Long.MIN_VALUE : Long.parseLong(word);
            long[] due = {(v + 128 & 255) - 128, (v + 32768 & 65535) - 32768, (v + 2147483648L & 4294967295L) - 2147483648L, v, v == 0 ? 0 : 1};
            for (int sort = 0; sort <= 4; sort++) {
                run("35: its lowest bits, as many as an item has", "tape(1, " + sort + ", 3); item(1, 0, 7); item(1, 2, 7); item(1, 1, " + word + ") = 1; read(1, 1) = " + (due[sort] == Long.MIN_VALUE ? "LONG_MIN" : due[sort]),
                    "read(1, 0) = " + (sort == 4 ? 1 : 7) + "; read(1, 2) = " + (sort == 4 ? 1 : 7) + "; item(1, 1, 0) = 1; read(1, 1) = 0");
            }
        }
        run("35: booleans: whether v is not 0, in any of its bits", "tape(0, 4, 1); item(0, 0, 4294967296); read(0, 0) = 1; item(0, 0, 0); read(0, 0) = 0; item(0, 0, LONG_MIN); read(0, 0) = 1; item(0, 0, 256); read(0, 0) = 1; item(0, 0, 2); read(0, 0) = 1");
    }

    static void itemRefusals() {
        run("35: NONE: tape, beyond 0 .. 5", "item(-1, 0, 0) = NONE; item(6, 0, 0) = NONE; item(MIN, 0, 0) = NONE; item(MAX, 0, 0) = NONE");
        run("35: NONE ahead of NOTHING and PLACE", "item(6, -1, 0) = NONE; item(-1, 60, 0) = NONE");
        run("35: NOTHING ahead of PLACE", "item(0, 0, 0) = NOTHING; item(0, -1, 0) = NOTHING; item(5, MAX, 0) = NOTHING; tape(0, 0, 0); item(0, 0, 0) = PLACE; item(0, -1, 0) = PLACE");
        run("35: PLACE: the first, the last, one ahead, one behind", "tape(1, 3, 3); item(1, -1, 5) = PLACE; item(1, 3, 5) = PLACE; item(1, MIN, 5) = PLACE; item(1, MAX, 5) = PLACE; item(1, 0, 5) = 1; item(1, 2, 6) = 1; read(1, 0) = 5; read(1, 1) = 0; read(1, 2) = 6");
        run("35: PLACE: no other TAPE's", "tape(0, 3, 60); tape(1, 3, 60); item(0, 60, 5) = PLACE; item(1, -1, 5) = PLACE; item(0, 61, 5) = PLACE; read(1, 0) = 0; read(0, 59) = 0");
    }

    static void read() {
        run("36: NO: no such TAPE", "read(-1, 0) = NO; read(6, 0) = NO; read(MIN, 0) = NO; read(MAX, 0) = NO");
        run("36: NO: nothing there", "read(0, 0) = NO; read(5, 0) = NO; read(0, MIN) = NO; read(0, MAX) = NO");
        run("36: NO: no such place", "tape(0, 0, 3); tape(1, 0, 3); read(0, -1) = NO; read(0, 3) = NO; read(0, 2) = 0; read(0, 60) = NO; read(1, -1) = NO; read(0, MIN) = NO; read(0, MAX) = NO; tape(1, 0, 0); read(1, 0) = NO");
        run("36: a long that is NO is read as it is", "tape(0, 3, 1); item(0, 0, LONG_MIN); read(0, 0) = LONG_MIN; item(0, 0, LONG_MAX); read(0, 0) = LONG_MAX");
    }

    static void shift() {
        String rows = "tape(0, 2, 4); tape(1, 2, 3); tape(2, 3, 4);" + times(4, "item(0, #, @)");
        run("37: to another one, all of it", rows, "shift(0, 1, 1, 0, 3) = 3; read(1, 0) = 2; read(1, 1) = 3; read(1, 2) = 4; read(0, 0) = 1; read(0, 3) = 4");
        run("37: the last item to the last place", rows, "shift(0, 3, 1, 2, 1) = 1; read(1, 2) = 4; read(1, 1) = 0");
        run("37: the same, onto itself, up and down, as they all were before", rows, "shift(0, 0, 0, 1, 3) = 3; read(0, 0) = 1; read(0, 1) = 1; read(0, 2) = 2; read(0, 3) = 3; shift(0, 1, 0, 0, 3) = 3; read(0, 0) = 1; read(0, 1) = 2; read(0, 2) = 3; read(0, 3) = 3; shift(0, 0, 0, 0, 4) = 4; read(0, 3) = 3");
        run("37: n is 0, at either end", rows, "shift(0, 0, 1, 0, 0) = 0; shift(0, 4, 1, 3, 0) = 0; shift(0, 4, 0, 4, 0) = 0; read(1, 0) = 0; tape(3, 2, 0); shift(3, 0, 0, 4, 0) = 0; shift(0, 4, 3, 0, 0) = 0; shift(3, 0, 3, 0, 0) = 0");
        run("37: 60 of them, the first, the last TAPE", "tape(0, 3, 60); tape(5, 3, 60); item(0, 0, LONG_MIN); item(0, 59, 9); shift(0, 0, 5, 0, 60) = 60; read(5, 0) = LONG_MIN; read(5, 59) = 9");
        run("37: booleans, bytes, shorts", "tape(0, 4, 2); tape(1, 4, 2); tape(2, 0, 2); tape(3, 0, 2); tape(4, 1, 1); tape(5, 1, 1); item(0, 1, 1); item(2, 0, -7); item(4, 0, -9); shift(0, 0, 1, 0, 2) = 2; read(1, 1) = 1; shift(2, 0, 3, 1, 1) = 1; read(3, 1) = -7; shift(4, 0, 5, 0, 1) = 1; read(5, 0) = -9");
    }

    static void shiftRefusals() {
        String rows = "tape(0, 2, 4); tape(1, 2, 3); tape(2, 3, 4);" + times(4, "item(0, #, @)");
        run("37: NONE: tapes, beyond 0 .. 5", rows, "shift(-1, 0, 0, 0, 0) = NONE; shift(6, 0, 0, 0, 0) = NONE; shift(0, 0, -1, 0, 0) = NONE; shift(0, 0, 6, 0, 0) = NONE; shift(MIN, 0, 0, 0, 0) = NONE; shift(0, 0, MAX, 0, 0) = NONE");
        run("37: NONE ahead of NOTHING, CAST, PLACE", rows, "shift(3, 0, 6, 0, 0) = NONE; shift(-1, 0, 3, 0, 0) = NONE; shift(0, -1, 6, 0, 9) = NONE; shift(6, 0, 2, 0, 9) = NONE");
        run("37: NOTHING: in either", rows, "shift(3, 0, 0, 0, 0) = NOTHING; shift(0, 0, 3, 0, 0) = NOTHING; shift(3, 0, 4, 0, 0) = NOTHING; shift(3, 0, 3, 0, 0) = NOTHING");
        run("37: NOTHING ahead of CAST and PLACE", rows, "shift(3, -1, 0, 0, 0) = NOTHING; shift(2, 0, 3, 0, -1) = NOTHING; shift(0, 5, 3, 0, 0) = NOTHING");
        run("37: CAST: of unlike sorts", rows, "shift(0, 0, 2, 0, 1) = CAST; shift(2, 0, 0, 0, 1) = CAST; shift(0, 0, 2, 0, 0) = CAST");
        run("37: CAST ahead of PLACE", rows, "shift(0, -1, 2, 0, 1) = CAST; shift(0, 0, 2, 0, -1) = CAST; shift(2, 0, 0, 9, 9) = CAST");
        run("37: PLACE: below 0", rows, "shift(0, 0, 1, 0, -1) = PLACE; shift(0, -1, 1, 0, 1) = PLACE; shift(0, 0, 1, -1, 1) = PLACE; shift(0, -1, 1, 0, 0) = PLACE; shift(0, 0, 1, -1, 0) = PLACE; shift(0, MIN, 1, 0, 1) = PLACE; shift(0, 0, 1, MIN, 1) = PLACE; shift(0, 0, 1, 0, MIN) = PLACE");
        run("37: PLACE: beyond its end", rows, "shift(0, 0, 0, 0, 4) = 4; shift(0, 0, 0, 0, 5) = PLACE; shift(0, 2, 1, 0, 3) = PLACE; shift(0, 4, 1, 0, 1) = PLACE; shift(0, 5, 1, 0, 0) = PLACE");
        run("37: PLACE: beyond the other's end", rows, "shift(0, 0, 1, 0, 4) = PLACE; shift(0, 0, 1, 1, 3) = PLACE; shift(0, 0, 1, 3, 1) = PLACE; shift(0, 0, 1, 4, 0) = PLACE; shift(0, 0, 1, 1, 2) = 2");
        run("37: PLACE: no sum comes round", rows, "shift(0, MAX, 1, 0, 1) = PLACE; shift(0, 1, 1, 0, MAX) = PLACE; shift(0, MAX, 1, 0, MAX) = PLACE; shift(0, 0, 1, MAX, 1) = PLACE; shift(0, 0, 1, MAX, MAX) = PLACE; shift(0, MIN, 1, MIN, MIN) = PLACE; shift(0, MAX, 1, MAX, 0) = PLACE");
    }
}
