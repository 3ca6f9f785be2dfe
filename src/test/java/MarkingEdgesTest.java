/** Promises 12 to 19 and the terms of A MARKING, at their boundaries: each run is one sentence of the document. */
final class MarkingEdgesTest extends Script {
    /** Boxes 0, 1, 2 and an atom 3, held by ROOT 0: over behind 12 STEPS. */
    private static final String CHAIN = "cell(3, 0, 0); cell(3, 0, 0); cell(3, 0, 0); cell(0, 0, 0); hold(0, 0, 1); hold(1, 0, 2); hold(2, 0, 3); root(0, 0);";
    private static final String LONG_CHAIN = times(24, "cell(3, 0, 0)") + times(23, "hold(#, 0, @)") + "root(0, 0);";

    public static void main(String[] args) {
        begin();
        asOneBegins();
        stepRefusals();
        atNone();
        aStackThatIsFull();
        noStack();
        pinned();
        fieldsThatArePassed();
        comingUp();
        later();
        over();
        deepest();
        leave();
        clean();
        sweep();
        told();
        on();
        need();
        least();
        end();
    }

    /** Chains of n boxes. */
    private static String chainOf(int n) {
        return times(n, "cell(3, 0, 0)") + times(n - 1, "hold(#, 0, @)") + "root(0, 0);";
    }

    static void begin() {
        run("12: LIMIT 0 .. 8", CHAIN, "begin(-1) = BAD; begin(9) = BAD; begin(MIN) = BAD; begin(MAX) = BAD; told(0) = 0; begin(0) = 4; leave() = 0; begin(8) = 4; told(0) = 1");
        run("12: STATE: one runs", CHAIN, "begin(0) = 4; begin(0) = STATE; begin(8) = STATE; step(11) = 11; begin(0) = STATE; step(1) = 1; begin(0) = 4");
        run("12: BAD ahead of STATE", CHAIN, "begin(0) = 4; begin(-1) = BAD; begin(9) = BAD; begin(MAX) = BAD");
        run("12: how many CELLS are there: none", "begin(0) = 0; told(0) = 1; told(11) = 5");
        run("12: how many CELLS are there: all 24", LONG_CHAIN, "begin(8) = 24");
        run("12: how many CELLS are there, not those that are missing", CHAIN, "hold(1, 0, -1); begin(0) = 4; step(99); sweep() = 2; begin(0) = 2; leave(); cell(0, 0, 0) = 4; begin(0) = 3");
    }

    static void asOneBegins() {
        run("as one begins, no CELL is MARKED or LATER", CHAIN, "pin(1, true); begin(0); step(3) = 3; leave() = 1; told(8) = 0b0111; told(9) = 0b0100; begin(0); told(8) = 0; told(9) = 0; of(2, 3) = 0; of(2, 5) = 0");
        run("as one begins, it is AT none, BACK is none, the STACK is empty", CHAIN, "begin(1); step(4); leave(); begin(1); told(1) = -5; told(2) = -5; told(12) = 0; on(0, 3) = 0");
        run("as one begins, NEXT is 0", CHAIN, "begin(1); step(99) = 12; begin(1); step(1); told(1) = 0; told(11) = 11");
        run("as one begins, STEPS, TURNED, PUSHED, OFF, DEEPEST are 0", CHAIN,
            "pin(1, true); begin(0); step(99) = 13; told(4) = 2; told(6) = 1; told(7) = 1; begin(1); told(3) = 0; told(4) = 0; told(5) = 0; told(6) = 0; told(7) = 0; step(99); told(5) = 2; begin(0); told(5) = 0");
        run("as one begins, COUNT stays till a CELL is MARKED", CHAIN, "begin(0); step(99); of(1, 4) = 1; begin(0); of(1, 4) = 1; step(1); of(0, 4) = 0; of(1, 4) = 1; step(1); of(1, 4) = 0");
    }

    static void stepRefusals() {
        run("13: n 0 .. 99", LONG_CHAIN, "begin(0); step(-1) = BAD; step(100) = BAD; step(MIN) = BAD; step(MAX) = BAD; told(3) = 0; step(0) = 0; told(3) = 0; step(1) = 1");
        run("13: 99 STEPS", times(23, "cell(2, 0, 6)"), times(22, "hold(#, 0, @)"), "root(0, 0); begin(8); step(99) = 99; told(3) = 99; step(98) = 67; told(3) = 166");
        run("13: STATE: none runs", "step(0) = STATE; step(1) = STATE; step(99) = STATE; begin(0); step(0) = 0; leave(); step(0) = STATE");
        run("13: BAD ahead of STATE", "step(-1) = BAD; step(100) = BAD; step(MIN) = BAD; step(MAX) = BAD");
        run("13: fewer, if it is OVER ahead of that", CHAIN, "begin(0); step(11) = 11; told(0) = 1; step(2) = 1; told(0) = 0; step(1) = STATE; told(3) = 12");
        run("13: as many, if it is OVER with that", CHAIN, "begin(0); step(12) = 12; told(0) = 0; told(3) = 12");
        run("13: one fewer, and it runs", CHAIN, "begin(0); step(11) = 11; told(0) = 1; told(14) = 0; told(11) = 1");
    }

    static void atNone() {
        run("(a) a ROOT holds nothing: NEXT is 1 more", "cell(0, 0, 0); root(3, 0); begin(0); step(3) = 3; told(1) = -5; told(8) = 0; step(1); told(1) = 0; told(8) = 1");
        run("(a) a ROOT holds a MARKED one", "cell(0, 0, 0); root(0, 0); root(1, 0); begin(0); step(2); told(1) = -5; step(1); told(1) = -5; told(11) = 3");
        run("(a) NEXT below 4: all four ROOTS", times(4, "cell(0, 0, 0)"), times(4, "root(#, #)"), "begin(0); step(1); told(1) = 0; step(2); told(1) = 1; step(2); told(1) = 2; step(2); told(1) = 3; step(1); told(1) = -5; step(1) = 1; told(0) = 0; told(3) = 9");
        run("(a) none LATER, NEXT 4: it is OVER by a STEP", "begin(0); step(4) = 4; told(0) = 1; told(14) = 0; step(1) = 1; told(0) = 0; told(14) = 1; told(3) = 5");
        run("(a) what a ROOT holds comes ahead of what is LATER", "'<1>' build(0) = 2", "'2' build(3) = 1; pin(0, true); begin(0); step(2); told(9) = 0b010; step(2); told(1) = -5; step(2); told(1) = 2; told(9) = 0b010; step(1); told(1) = -5; step(1); told(1) = 1; told(9) = 0");
        run("(a) a ROOT that holds what is LATER passes: that is MARKED", "'<1>' build(0); root(1, 1); pin(0, true); begin(0); step(4); told(1) = -5; told(9) = 0b10; step(1); told(1) = -5; told(9) = 0b10; step(2); told(1) = 1");
    }

    static void aStackThatIsFull() {
        for (int limit = 0; limit <= 8; limit++) {
            String due = "need(" + limit + ", 1) = 0; need(" + limit + ", 2) = " + limit;
            run("(b) the STACK has less than LIMIT", chainOf(limit + 1), due, "begin(" + limit + "); step(" + (limit + 1) + "); told(12) = " + limit + "; told(2) = -5; told(4) = 0; told(5) = " + limit);
            run("(b) the STACK is full: one FIELD is turned", chainOf(limit + 2), "need(" + limit + ", 1) = 1; need(" + limit + ", 2) = " + limit,
                "begin(" + limit + "); step(" + (limit + 2) + "); told(12) = " + limit + "; told(2) = " + limit + "; told(4) = 1; raw(" + limit + ", 0) = -5; on(0, 3) = 1");
            run("(b) the STACK is full: two FIELDS are turned", chainOf(limit + 3),
                "begin(" + limit + "); step(" + (limit + 3) + "); told(12) = " + limit + "; told(2) = " + (limit + 1) + "; told(4) = 2; raw(" + limit + ", 0) = -5; raw(" + (limit + 1) + ", 0) = " + limit);
        }
        run("(b) by LIMIT 8, as many as there can be", LONG_CHAIN, "begin(8); step(24); told(1) = 23; told(2) = 22; told(12) = 8; told(4) = 15; told(7) = 23; raw(8, 0) = -5; raw(22, 0) = 21; raw(7, 0) = 8; on(0, 3) = 15");
    }

    static void noStack() {
        run("(b) by LIMIT 0 nothing comes on the STACK", CHAIN, "begin(0); step(2); told(12) = 0; told(5) = 0; told(2) = 0; told(4) = 1; raw(0, 0) = -5; step(2); told(12) = 0; told(2) = 2; raw(1, 0) = 0; raw(2, 0) = 1");
        run("(b) by LIMIT 0, as many as there can be", LONG_CHAIN, "begin(0); step(24); told(2) = 22; told(4) = 23; told(7) = 23; on(0, 3) = 23; leave() = 23");
    }

    static void pinned() {
        run("(b) PINNED, the STACK having less than LIMIT: it comes on it", CHAIN, "pin(1, true); begin(2); step(3); told(12) = 2; told(6) = 0; told(1) = 2");
        run("(b) PINNED, the STACK being full: it is put off", CHAIN, "pin(1, true); begin(1); step(3); told(12) = 1; told(6) = 1; told(1) = 1; told(9) = 0b0100; told(8) = 0b0111; of(1, 4) = 1; of(2, 5) = 1; told(4) = 0");
        run("(b) not PINNED, the STACK being full: it is turned", CHAIN, "pin(0, true); pin(2, true); begin(1); step(3); told(12) = 1; told(6) = 0; told(4) = 1; told(1) = 2; told(2) = 1");
        run("(b) what counts is whether it is PINNED by then", CHAIN, "begin(0); step(1); pin(0, true); step(1); told(6) = 1; told(4) = 0; told(9) = 0b0010");
        run("(b) what counts is whether it is PINNED by then: no more", CHAIN, "pin(0, true); begin(0); step(1); pin(0, false); step(1); told(6) = 0; told(4) = 1; told(1) = 1");
        run("(b) PINNED, and it holds a MARKED one: OFF stays", "cell(3, 0, 0); hold(0, 0, 0); root(0, 0); pin(0, true); begin(0); step(2); told(6) = 0; told(9) = 0; of(0, 4) = 1");
        run("(b) PINNED, and the FIELD isn't FOLLOWED: OFF stays", "cell(4, 0, 0); cell(0, 0, 0); hold(0, 0, 1); root(0, 0); pin(0, true); begin(0); step(2); told(6) = 0; told(9) = 0; of(0, 4) = 1; told(8) = 0b01");
        run("(b) PINNED, and it holds nothing: OFF stays", "cell(3, 0, 0); root(0, 0); pin(0, true); begin(0); step(2); told(6) = 0; told(9) = 0; of(0, 4) = 1");
        run("(b) PINNED: what is put off is held by FIELDS still", CHAIN, "pin(1, true); begin(0); step(3); raw(1, 0) = 2; field(1, 0) = 2; raw(0, 0) = -5");
        run("(b) what is put off twice is put off once: it is MARKED", "'[1,~]' build(0); hold(0, 1, 1); pin(0, true); begin(0); step(3); told(6) = 1; told(9) = 0b10; of(0, 4) = 2");
        run("(b) a PINNED one is on the STACK: the next one, which isn't PINNED, is turned", CHAIN, "pin(0, true); begin(1); step(3); told(4) = 1; told(6) = 0; told(2) = 1");
    }

    static void fieldsThatArePassed() {
        run("(b) it holds nothing: COUNT is 1 more", "cell(1, 0, 0); root(0, 0); begin(8); step(2); told(1) = 0; of(0, 4) = 1; step(1); of(0, 4) = 2; told(1) = 0; step(1); told(1) = -5");
        run("(b) it holds a MARKED one: COUNT is 1 more", "cell(1, 0, 0); hold(0, 0, 0); hold(0, 1, 0); root(0, 0); begin(8); step(3); told(1) = 0; of(0, 4) = 2; told(5) = 0");
        run("(b) it isn't FOLLOWED: COUNT is 1 more", "cell(5, 0, 2); cell(0, 0, 0); cell(0, 0, 0); hold(0, 0, 1); hold(0, 1, 2); root(0, 0); begin(8); step(2); told(1) = 0; of(0, 4) = 1; told(8) = 0b001; step(1); told(1) = 2; told(8) = 0b101");
        run("(c) a CELL of no FIELDS", "cell(2, 0, 0); cell(5, 0, 0); root(0, 0); root(1, 1); begin(8); step(1); told(1) = 0; step(1); told(1) = -5; of(0, 4) = 0; step(1); told(1) = 1; step(1); told(1) = -5");
        run("(b) COUNT goes on from where it was, not by one turned FIELD over again", "'(1.2)' build(0); begin(0); step(2); told(1) = 1; raw(0, 0) = -5; step(1); of(0, 4) = 1; raw(0, 0) = 1; step(1); told(1) = 2; raw(0, 1) = -5; step(1); of(0, 4) = 2; raw(0, 1) = 2");
    }

    static void comingUp() {
        run("(c) BACK is a CELL: its FIELD holds the CELL it was AT again", CHAIN, "begin(0); step(4); told(2) = 2; step(1); raw(2, 0) = 3; told(1) = 2; told(2) = 1; of(2, 4) = 1");
        run("(c) BACK becomes none by the first one that was turned", CHAIN, "begin(1); step(4); told(2) = 2; step(1); told(2) = 1; step(1); told(2) = -5; told(1) = 1; told(12) = 1");
        run("(c) BACK ahead of the STACK", CHAIN, "begin(2); step(4); told(12) = 2; told(2) = 2; step(1); told(12) = 2; told(2) = -5; told(1) = 2; step(1); told(12) = 1; told(1) = 1");
        run("(c) the latest on the STACK, which leaves it", CHAIN, "begin(3); step(4); told(12) = 3; step(1); told(12) = 2; told(1) = 2; of(2, 4) = 1; step(1); told(12) = 1; told(1) = 1; step(1); told(12) = 0; told(1) = 0; step(1); told(1) = -5; of(0, 4) = 1");
        run("(c) else it is AT none", "'1' build(0); begin(0); step(1); told(1) = 0; step(1); told(1) = -5; told(2) = -5; told(12) = 0; told(0) = 1");
        run("(b) the STACK that has less than LIMIT again is used again", "'[<1>,<2>]' build(0); begin(1); step(3); told(4) = 1; step(2); told(1) = 0; told(12) = 0; step(1); told(12) = 1; told(4) = 1; told(5) = 2; step(1); told(4) = 2; told(2) = 3");
    }

    static void later() {
        run("(a) the first of these by number, COUNT 0", "'[<1>,<2>,<3>]' build(0); hold(0, 0, 5); hold(0, 2, 1); pin(0, true); begin(0); step(4) = 4; told(9) = 0b0101010; step(4) = 4; told(1) = -5; step(1); told(1) = 1; told(9) = 0b0101000; of(1, 4) = 0");
        run("(a) all of them, one by one", "'[1,2,3]' build(0); pin(0, true); begin(0); told(11) = 15; step(8) = 8; told(9) = 0b1110; step(1); told(1) = 1; step(1); told(1) = -5; step(1); told(1) = 2; step(2); told(1) = 3; told(9) = 0; step(1); told(0) = 1; step(1); told(0) = 0");
        run("(a) CELL 23 can be LATER", times(24, "cell(3, 0, 0)"), "hold(0, 0, 23); root(3, 0); pin(0, true); begin(0); step(5) = 5; told(9) = 8388608; of(23, 5) = 1; step(2) = 2; told(1) = 23; told(9) = 0");
        run("(a) CELL 0 can be LATER", "cell(0, 0, 0); cell(3, 0, 0); hold(1, 0, 0); root(3, 1); pin(1, true); begin(0); step(5) = 5; told(9) = 1; step(2) = 2; told(1) = 0; told(9) = 0");
        run("from what was LATER FIELDS are turned as well", CHAIN, "pin(0, true); begin(0); step(2); told(9) = 0b0010; step(5) = 5; told(1) = 1; step(2) = 2; told(1) = 3; told(2) = 2; raw(1, 0) = -5; raw(2, 0) = 1; raw(0, 0) = 1");
    }

    static void over() {
        run("OVER: AT, BACK -5, no STACK, no STEPS yet", CHAIN, "begin(1); step(99) = 12; told(0) = 0; told(1) = -5; told(2) = -5; told(11) = 0; told(12) = 0");
        run("OVER: MARKED, COUNT, STEPS and so on stay", CHAIN, "begin(1); step(99); told(8) = 0b1111; told(3) = 12; told(4) = 2; told(5) = 1; told(6) = 0; told(7) = 3; of(0, 4) = 1; of(3, 4) = 0");
        run("OVER: all FIELDS hold what they held", CHAIN, "begin(0); step(99); raw(0, 0) = 1; raw(1, 0) = 2; raw(2, 0) = 3");
        run("STEPS is 1 more with each, the last one too", "begin(0); step(5) = 5; told(3) = 5");
        run("at most so many STEPS", times(24, "cell(2, 0, 6)"), times(23, "hold(#, 5, @)"), "root(0, 0); need(0, 0) = 173; begin(0); step(99); step(99) = 74");
    }

    static void deepest() {
        run("DEEPEST: on the STACK and with a turned FIELD, together", CHAIN, "begin(1); step(1); told(7) = 0; step(1); told(7) = 1; step(1); told(7) = 2; step(1); told(7) = 3; step(99); told(7) = 3");
        run("DEEPEST: at a time, not all in all", "'[1,2,3]' build(0); begin(1); step(99); told(7) = 1; told(5) = 3");
        run("DEEPEST: 0, none being held", "'1' build(0); begin(8); step(99); told(7) = 0");
        run("DEEPEST: what is put off isn't on the way", CHAIN, "pin(0, true); pin(1, true); pin(2, true); begin(0); step(99); told(7) = 0; told(6) = 3; told(8) = 0b1111");
        run("DEEPEST: as many as there can be", LONG_CHAIN, "need(0, 4) = 23; need(8, 4) = 23; begin(4); step(23); told(7) = 22; step(1); told(7) = 23");
    }

    static void leave() {
        run("14: STATE: none runs", "leave() = STATE; begin(0); leave() = 0; leave() = STATE; begin(0); step(99) = 5; leave() = STATE");
        run("14: how many FIELDS were turned: none", CHAIN, "begin(8); step(4); leave() = 0");
        run("14: how many FIELDS were turned: now, not all in all", CHAIN, "begin(0); step(4); told(4) = 3; step(1); leave() = 2");
        run("14: turned FIELDS hold what they held", CHAIN, "begin(1); step(4); raw(1, 0) = -5; raw(2, 0) = 1; leave() = 2; raw(1, 0) = 2; raw(2, 0) = 3; field(2, 0) = 3");
        run("14: none runs: AT, BACK, the STACK", CHAIN, "begin(1); step(4); leave(); told(0) = 0; told(1) = -5; told(2) = -5; told(12) = 0; told(11) = 0; on(0, 3) = 0; on(400, 0) = -5; on(400, 1) = -5");
        run("14: MARKED, LATER, COUNT, STEPS and so on stay", CHAIN, "pin(1, true); begin(0); step(3); leave() = 1; told(8) = 0b0111; told(9) = 0b0100; of(1, 4) = 1; told(3) = 3; told(4) = 1; told(5) = 0; told(6) = 1; told(7) = 1; on(400, 4) = 3; on(400, 2) = 0b0111");
        run("14: it isn't CLEAN, even when all was MARKED", CHAIN, "begin(8); step(11); told(8) = 0b1111; leave() = 0; told(14) = 0; sweep() = STATE");
    }

    static void clean() {
        String over = CHAIN + "begin(0); step(99) = 12; told(14) = 1;";
        run("CLEAN: not at first, nor as it runs, but when it is OVER", CHAIN, "told(14) = 0; begin(0); told(14) = 0; step(11); told(14) = 0; step(1); told(14) = 1");
        run("CLEAN no more: one began", over, "begin(0); told(14) = 0; leave(); told(14) = 0; sweep() = STATE");
        run("CLEAN no more: a CELL came", over, "cell(0, 0, 0) = 4; told(14) = 0; sweep() = STATE");
        run("CLEAN no more: a FIELD was told", over, "hold(0, 0, -1) = 1; told(14) = 0; sweep() = STATE");
        run("CLEAN no more: a FIELD was told what it is", over, "hold(0, 0, 1) = 1; told(14) = 0; sweep() = STATE");
        run("CLEAN no more: a ROOT was told", over, "root(3, 0) = -5; told(14) = 0; sweep() = STATE");
        run("CLEAN no more: a ROOT was told what it is", over, "root(3, -1) = -5; told(14) = 0; sweep() = STATE");
        run("CLEAN no more: a TAG was told", over, "tag(3, 4) = 0; told(14) = 0; sweep() = STATE");
        run("CLEAN no more: a TAG was told what it is", over, "tag(3, 0) = 0; told(14) = 0; sweep() = STATE");
        run("CLEAN no more: it was swept", over, "sweep() = 0; told(14) = 0; sweep() = STATE");
        run("CLEAN still: what is refused tells nothing", over, "begin(9) = BAD; cell(7, 0, 0) = NONE; cell(0, 10, 0) = BAD; hold(0, 1, 0) = NONE; root(4, 0) = NONE; tag(3, 10) = BAD; tag(4, 0) = NONE; step(1) = STATE; leave() = STATE; told(14) = 1; sweep() = 0");
        run("CLEAN still: what is FULL tells nothing", LONG_CHAIN, times(5, "see(0, 0, true)"), times(10, "plan(0, 0)"), times(8, "book(0, 0, 1)"), times(100, "feed(126)"),
            "begin(0); step(99) = 53; cell(0, 0, 0) = FULL; see(0, 0, true) = FULL; plan(0, 0) = FULL; book(0, 0, 1) = FULL; feed(126) = FULL; told(14) = 1; sweep() = 0");
        run("CLEAN still: what else is told", over, "pin(0, true) = 0; feed(49) = 1; see(0, 0, true) = 1; plan(0, 0) = 1; book(0, 0, 1) = 1; tape(0, 4, 1) = 1; item(0, 0, 1) = 1; shift(0, 0, 0, 0, 1) = 1; image() = 4; told(14) = 1; sweep() = 0");
        run("CLEAN still: what is asked", over, "of(0, 10); field(0, 0); raw(0, 0); on(9, 0); need(0, 0); least(0); fits(0); can(0, 0, 0); odds(0, 0); mean(0); ends(); looked(); judge(0, 0); taken(0, 0); count(0); read(0, 0); told(14) = 1; sweep() = 0");
    }

    static void sweep() {
        run("15: STATE: it isn't CLEAN", CHAIN, "sweep() = STATE; begin(0); sweep() = STATE; step(11); sweep() = STATE; leave(); sweep() = STATE");
        run("15: STATE: CELLS, none of them MARKED as yet, go on being there", "cell(0, 0, 0); sweep() = STATE; told(13) = 1");
        run("15: none goes", CHAIN, "begin(0); step(99); sweep() = 0; told(13) = 0b1111; told(8) = 0; told(14) = 0");
        run("15: all go", times(24, "cell(3, 0, #)").replaceAll("3, 0, \\d+", "3, 0, 0"), "begin(0); step(99); sweep() = 24; told(13) = 0; count(0) = 24");
        run("15: CELLS that aren't MARKED are missing", CHAIN, "root(0, 2) = 0; begin(0); step(99); sweep() = 2; told(13) = 0b1100; of(0, 0) = NONE; of(2, 0) = 3");
        run("15: FIELDS of others that hold a missing one hold nothing, FOLLOWED or not", "cell(5, 0, 4); cell(0, 0, 0); cell(0, 0, 0); hold(0, 0, 1); hold(0, 1, 2); hold(0, 2, 2); hold(0, 3, 0); root(0, 0); begin(0); step(99); sweep() = 1;"
            + "field(0, 0) = -5; raw(0, 0) = -5; field(0, 1) = 2; field(0, 2) = 2; field(0, 3) = 0; of(2, 7) = 2");
        run("15: a HALF of an even TAG loses its second one", "cell(6, 8, 0); cell(0, 0, 0); hold(0, 1, 1); root(0, 0); begin(0); step(99); sweep() = 1; field(0, 1) = -5");
        run("15: no CELL is MARKED; COUNT, STEPS and so on stay", CHAIN, "begin(0); step(99); sweep() = 0; told(8) = 0; of(0, 3) = 0; of(0, 4) = 1; told(3) = 12; told(4) = 3; told(7) = 3; told(9) = 0; on(400, 2) = 0");
        run("15: ROOTS hold what they held", CHAIN, "root(2, 3); begin(0); step(99); sweep() = 0; told(15) = 0; told(17) = 3; told(10) = 0b1111");
        run("15: swept again and again", CHAIN, "begin(0); step(99); sweep() = 0; hold(2, 0, -1) = 3; begin(0); step(99) = 11; sweep() = 1; root(0, -1); begin(0); step(99); sweep() = 3; begin(0) = 0; step(99); sweep() = 0");
    }

    static void told() {
        run("16: NONE, beyond 0 .. 18", "told(-1) = NONE; told(19) = NONE; told(MIN) = NONE; told(MAX) = NONE; told(0) = 0; told(18) = -5; told(14) = 0");
        run("16: 15 and r: what ROOT r holds", times(4, "cell(0, 0, 0)"), times(4, "root(#, #)"), "told(15) = 0; told(16) = 1; told(17) = 2; told(18) = 3; told(19) = NONE");
        run("16: who is there: CELL 23, too", LONG_CHAIN, "told(13) = 16777215; told(10) = 16777215; begin(0); step(99); told(8) = 16777215");
        run("16: REACHED: none", "cell(0, 0, 0); told(10) = 0; told(8) = 0");
        run("16: how many STEPS there are yet", CHAIN, "told(11) = 0; begin(0); told(11) = 12; step(11); told(11) = 1; step(1); told(11) = 0; begin(0); leave(); told(11) = 0");
        run("16: how many are on the STACK, 0 if none runs", LONG_CHAIN, "begin(8); step(8); told(12) = 7; step(1); told(12) = 8; step(1); told(12) = 8; leave(); told(12) = 0");
    }

    static void on() {
        run("17: NONE: what, beyond 0 .. 4", CHAIN, "on(0, -1) = NONE; on(0, 5) = NONE; on(0, MIN) = NONE; on(0, MAX) = NONE; on(0, 0) = -5; on(0, 4) = 0");
        run("17: BAD: n, beyond 0 .. 400", CHAIN, "on(-1, 0) = BAD; on(401, 4) = BAD; on(MIN, 2) = BAD; on(MAX, 2) = BAD; on(400, 0) = -5; on(0, 0) = -5");
        run("17: NONE ahead of BAD", CHAIN, "on(-1, 5) = NONE; on(401, -1) = NONE; begin(0); on(401, 5) = NONE");
        run("ON 0 STEPS: as now", CHAIN, "begin(1); step(4); on(0, 0) = 3; on(0, 1) = 2; on(0, 2) = 0b1111; on(0, 3) = 2; on(0, 4) = 4");
        run("ON n STEPS, up to OVER and beyond", CHAIN, "begin(1); step(3); on(1, 0) = 3; on(1, 3) = 2; on(8, 4) = 11; on(8, 0) = -5; on(9, 4) = 12; on(10, 4) = 12; on(400, 4) = 12; on(400, 2) = 0b1111; on(400, 3) = 0; told(0) = 1");
        run("ON: as now, if none runs", CHAIN, "on(5, 4) = 0; on(5, 2) = 0; begin(0); step(3); leave(); on(5, 0) = -5; on(5, 1) = -5; on(5, 2) = 0b0111; on(5, 3) = 0; on(5, 4) = 3");
        run("ON: FIELDS that will be turned, PINNED ones as they are now", CHAIN, "pin(1, true); begin(0); on(2, 3) = 1; on(3, 3) = 1; on(3, 0) = 1; pin(1, false); on(3, 3) = 2; on(3, 0) = 2");
    }

    static void need() {
        run("18: NONE: what, beyond 0 .. 4", CHAIN, "need(0, -1) = NONE; need(0, 5) = NONE; need(0, MIN) = NONE; need(0, MAX) = NONE; need(0, 0) = 12; need(0, 4) = 3");
        run("18: BAD: limit, beyond 0 .. 8", CHAIN, "need(-1, 0) = BAD; need(9, 0) = BAD; need(MIN, 0) = BAD; need(MAX, 0) = BAD; need(8, 0) = 12");
        run("18: NONE ahead of BAD and STATE, BAD ahead of STATE", CHAIN, "need(9, 5) = NONE; begin(0); need(0, 5) = NONE; need(9, 5) = NONE; need(9, 0) = BAD; need(-1, 4) = BAD; need(0, 0) = STATE");
        run("18: STATE: till it is OVER", CHAIN, "begin(0); step(11); need(0, 0) = STATE; step(1); need(0, 0) = 12");
        run("18: whatever is MARKED or LATER now", CHAIN, "pin(1, true); begin(0); step(5); leave(); told(9) = 0b0100; need(0, 0) = 13; need(0, 1) = 2; need(0, 3) = 1; need(1, 1) = 0; need(1, 2) = 2; need(1, 3) = 1; need(2, 3) = 0");
        run("18: whatever was asked ahead of it", CHAIN, "begin(0); on(3, 0) = 2; leave() = 0; need(0, 0) = 12; need(0, 4) = 3; see(3, 40, true); fits(1) = 0b1111; need(8, 2) = 3; least(0) = 3; begin(2); step(3); on(1, 3) = 1; leave(); need(0, 1) = 3; can(0, 0, 0) = 10; on(400, 4) = 3; need(3, 1) = 0");
        run("18: no CELLS, or no ROOTS", "need(0, 0) = 5; need(8, 4) = 0; cell(0, 0, 0); need(0, 0) = 5; root(0, 0); need(0, 0) = 6");
    }

    static void least() {
        run("19: NONE, beyond 0 and 1", CHAIN, "least(-1) = NONE; least(2) = NONE; least(MIN) = NONE; least(MAX) = NONE; least(0) = 3; least(1) = 0");
        run("19: NONE ahead of STATE", CHAIN, "begin(0); least(2) = NONE; least(-1) = NONE; least(0) = STATE; least(1) = STATE; step(99); least(0) = 3");
        run("LEAST 0: none is turned by no STACK", "least(0) = 0; least(1) = 0; cell(0, 0, 0); root(0, 0); least(0) = 0");
        run("LEAST 8 by TURNED", chainOf(9), "least(0) = 8; need(7, 1) = 1; need(8, 1) = 0");
        run("LEAST -5 by TURNED", chainOf(10), "least(0) = -5; need(8, 1) = 1; least(1) = 0");
        run("LEAST 8 by OFF", chainOf(9), "pin(7, true); least(1) = 8; need(7, 3) = 1; need(8, 3) = 0");
        run("LEAST -5 by OFF", chainOf(10), "pin(8, true); least(1) = -5; need(8, 3) = 1; least(0) = 8");
        run("LEAST by TURNED, all being PINNED", CHAIN, "pin(0, true); pin(1, true); pin(2, true); least(0) = 0; least(1) = 3");
    }
}
