/** Promises 20 to 24, at their boundaries: each run is one sentence of the document. */
final class SeenOddsEdgesTest extends Script {
    /** Boxes 0, 1, 2 and an atom 3, held by ROOT 0: 0 is MARKED behind 1 STEP, 1 behind 2, 2 behind 3, 3 behind 4. */
    private static final String CHAIN = "cell(3, 0, 0); cell(3, 0, 0); cell(3, 0, 0); cell(0, 0, 0); hold(0, 0, 1); hold(1, 0, 2); hold(2, 0, 3); root(0, 0);";
    /** A HALF 0 that holds atoms 1 and 2, held by ROOT 0. */
    private static final String HALVES = "cell(6, 4, 0); cell(0, 0, 0); cell(0, 0, 0); hold(0, 0, 1); hold(0, 1, 2); root(0, 0);";

    public static void main(String[] args) {
        see();
        seenBehindSteps();
        fits();
        fitsAsIfItBeganNow();
        can();
        canByTags();
        odds();
        oddsInLowestTerms();
        mean();
        end();
    }

    static void see() {
        run("20: NONE: the CELL", CHAIN, "see(4, 0, true) = NONE; see(-2, 0, true) = NONE; see(-5, 0, true) = NONE; see(24, 0, true) = NONE; see(32, 0, true) = NONE; see(MIN, 0, true) = NONE; see(MAX, 0, false) = NONE; count(1) = 0; see(3, 0, true) = 1");
        run("20: BAD: n, beyond 0 .. 40", CHAIN, "see(0, -1, true) = BAD; see(0, 41, true) = BAD; see(0, MIN, true) = BAD; see(0, MAX, true) = BAD; count(1) = 0; see(0, 0, false) = 1; see(0, 40, true) = 2");
        run("20: NONE ahead of BAD", CHAIN, "see(4, 41, true) = NONE; see(-2, -1, true) = NONE");
        run("20: 5 rows at most", CHAIN, times(4, "see(0, 1, true) = @"), "count(1) = 4; see(3, 40, true) = 5; see(0, 1, true) = FULL; see(0, 1, false) = FULL; count(1) = 5");
        run("20: NONE and BAD ahead of FULL", CHAIN, times(5, "see(0, 1, true) = @"), "see(4, 1, true) = NONE; see(0, 41, true) = BAD; see(0, -1, true) = BAD; see(0, 0, true) = FULL");
        run("20: CELL -1: none then, 0, whatever the rest is", CHAIN, times(5, "see(0, 0, true) = @"), "fits(0) = 0; see(-1, MIN, false) = 0; count(1) = 0; fits(0) = 0b1111; see(-1, 41, true) = 0; see(-1, 0, true) = 0; see(1, 1, true) = 1");
        run("20: while a MARKING runs", CHAIN, "begin(0); see(0, 1, true) = 1; see(-1, 0, true) = 0; see(3, 40, false) = 1; told(0) = 1");
        run("20: no CELLS at all", "see(0, 0, true) = NONE; see(-1, 99, true) = 0; count(1) = 0");
    }

    static void seenBehindSteps() {
        run("SEEN: behind 0 STEPS none is MARKED", CHAIN, "see(0, 0, false) = 1; fits(0) = 0b1111; see(0, 0, true) = 2; fits(0) = 0");
        run("SEEN: behind so many STEPS, not one fewer", CHAIN, "see(3, 3, false) = 1; can(3, 0, 0) = 10; see(3, 4, true) = 2; can(3, 0, 0) = 10; see(3, 3, true) = 3; can(3, 0, 0) = 0");
        run("SEEN: behind so many STEPS, not one more", CHAIN, "see(3, 4, false) = 1; can(3, 0, 0) = 0; see(-1, 0, true); see(3, 4, true); can(3, 0, 0) = 10");
        run("SEEN: behind 40 STEPS, as when it is OVER if that is ahead", CHAIN, "see(3, 12, true); see(3, 13, true); see(3, 40, true); see(0, 40, true); can(0, 0, 0) = 10; see(2, 40, false); can(0, 0, 0) = 0");
        run("SEEN: behind 39 and 40 STEPS of more", times(6, "cell(2, 0, 6)"), times(5, "hold(#, 5, @)"), "cell(3, 0, 0) = 6; hold(5, 5, 6) = -5; root(0, 0);"
            + "see(6, 36, false); see(6, 37, true); can(0, 0, 0) = 10; see(6, 39, true); see(6, 40, true); can(0, 0, 0) = 10; see(6, 36, true); can(0, 0, 0) = 0");
        run("SEEN: behind 40 STEPS, not 41", times(8, "cell(2, 0, 5)"), times(7, "hold(#, 4, @)"), "cell(2, 0, 4) = 8; hold(7, 4, 8); cell(0, 0, 0) = 9; hold(8, 0, 9); root(0, 0);"
            + "begin(8); on(40, 2) = 0b0011111111; on(41, 2) = 0b0111111111; leave(); see(8, 40, false); can(0, 8, 0) = 10; see(8, 40, true); can(0, 8, 0) = 0");
        run("SEEN: of a CELL that is missing: it isn't MARKED", CHAIN, "cell(0, 0, 0) = 4; see(4, 40, false); can(0, 0, 0) = 10; begin(0); step(99); sweep() = 1; count(1) = 1; can(0, 0, 0) = 10; fits(0) = 0b1111; see(-1, 0, true); see(4, 0, true) = NONE");
    }

    static void fits() {
        run("21: BAD: limit, beyond 0 .. 8", CHAIN, "fits(-1) = BAD; fits(9) = BAD; fits(MIN) = BAD; fits(MAX) = BAD; fits(0) = 0b1111; fits(8) = 0b1111");
        run("21: BAD ahead of STATE", CHAIN, "begin(0); fits(-1) = BAD; fits(9) = BAD; fits(0) = STATE; fits(8) = STATE");
        run("21: STATE: till it is OVER", CHAIN, "begin(0); step(11); fits(0) = STATE; step(1); fits(0) = 0b1111");
        run("21: no CELLS", "fits(0) = 0; fits(8) = 0");
        run("21: all that are there, nothing being SEEN", times(24, "cell(0, 0, 0)"), "fits(0) = 16777215; root(0, 3); begin(0); step(99); sweep() = 23; fits(0) = 0b1000");
    }

    static void fitsAsIfItBeganNow() {
        run("21: did ROOT 0 hold that, whatever it holds", CHAIN, "root(0, -1); see(3, 40, true); fits(0) = 0b1111; see(0, 40, false); fits(0) = 0b1110; see(2, 2, true); fits(0) = 0b0110; see(2, 1, false); fits(0) = 0b0010; told(15) = -5");
        run("21: the other ROOTS hold what they hold", CHAIN, "root(0, -1); root(1, 3); see(3, 2, true); fits(0) = 0b1100; see(3, 1, true); fits(0) = 0b1000");
        run("21: nothing is MARKED ahead of it", CHAIN, "begin(0); step(99); told(8) = 0b1111; see(0, 40, false); fits(0) = 0b1110");
        run("21: by the LIMIT, and by what is PINNED", "'[<1>,2]' build(0); pin(0, true); see(2, 3, true); fits(0) = 0b00110; fits(1) = 0b00111; pin(0, false); fits(0) = 0b00111");
        run("21: fits of the first, the last CELL", times(24, "cell(0, 0, 0)"), "see(23, 1, true); fits(0) = 8388608; see(-1, 0, true); see(0, 1, true); fits(0) = 1");
    }

    static void can() {
        run("22: NONE: the CELL", HALVES, "can(3, 0, 0) = NONE; can(-1, 0, 0) = NONE; can(24, 0, 0) = NONE; can(32, 0, 0) = NONE; can(MIN, 0, 0) = NONE; can(MAX, 0, 1) = NONE; can(2, 0, 0) = 10");
        run("22: NONE: what, beyond 0 and 1", HALVES, "can(0, 0, -1) = NONE; can(0, 0, 2) = NONE; can(0, 0, MIN) = NONE; can(0, 0, MAX) = NONE; can(0, 0, 1) = 0");
        run("22: BAD: limit, beyond 0 .. 8", HALVES, "can(0, -1, 0) = BAD; can(0, 9, 0) = BAD; can(0, MIN, 0) = BAD; can(0, MAX, 1) = BAD; can(0, 8, 0) = 10");
        run("22: NONE ahead of BAD", HALVES, "can(3, 9, 0) = NONE; can(0, 9, 2) = NONE; can(3, -1, -1) = NONE");
        run("22: NONE ahead of STATE, BAD ahead of STATE", HALVES, "begin(0); can(3, 0, 0) = NONE; can(0, 0, 2) = NONE; can(0, 9, 0) = BAD; can(0, -1, 1) = BAD; can(0, 0, 0) = STATE; can(0, 8, 1) = STATE");
        run("22: STATE: till it is OVER", HALVES, "begin(0); step(8) = 8; can(0, 0, 0) = STATE; step(1) = 1; told(0) = 0; can(0, 0, 0) = 10");
    }

    static void canByTags() {
        run("22: all TAGS, nothing being SEEN", HALVES, "can(0, 0, 0) = 10; can(0, 0, 1) = 0");
        run("22: odd TAGS, the least 1", HALVES, "see(2, 40, true); can(0, 0, 0) = 5; can(0, 0, 1) = 1; of(0, 1) = 4");
        run("22: even TAGS, the least 0", HALVES, "see(2, 40, false); can(0, 0, 0) = 5; can(0, 0, 1) = 0");
        run("22: none: 0, and -5", HALVES, "see(1, 40, false); can(0, 0, 0) = 0; can(0, 0, 1) = -5");
        run("22: another one's TAG", HALVES, "see(2, 40, true); can(1, 0, 0) = 0; can(1, 0, 1) = -5; tag(0, 9); can(1, 0, 0) = 10; can(1, 0, 1) = 0");
        run("22: of two HALVES", HALVES, "cell(6, 1, 0) = 3; hold(3, 1, 2); root(1, 3); see(2, 40, false); can(0, 0, 0) = 0; can(3, 0, 0) = 5; can(3, 0, 1) = 0; tag(0, 1); can(3, 0, 0) = 0");
    }

    static void odds() {
        run("23: NO: the CELL", CHAIN, "odds(4, 0) = NO; odds(-1, 0) = NO; odds(24, 1) = NO; odds(32, 0) = NO; odds(MIN, 0) = NO; odds(MAX, 1) = NO; odds(3, 0) = 0");
        run("23: NO: part, beyond 0 and 1", CHAIN, "odds(0, -1) = NO; odds(0, 2) = NO; odds(0, MIN) = NO; odds(0, MAX) = NO; odds(0, 0) = 1; odds(0, 1) = 1");
        run("23: NO: there are no such FIELDS: none at all", "odds(0, 0) = NO; cell(0, 0, 0); root(0, 0); odds(0, 0) = NO; odds(0, 1) = NO");
        run("23: NO: there are no such FIELDS: they hold nothing", "cell(3, 0, 0); cell(2, 0, 6); root(0, 0); odds(0, 0) = NO; hold(0, 0, 0); odds(0, 0) = 1; odds(0, 1) = 1");
        run("23: NO: there are no such FIELDS: they aren't FOLLOWED", "cell(4, 0, 0); cell(5, 0, 1); cell(6, 0, 0); hold(0, 0, 0); hold(1, 0, 0); hold(2, 1, 0); root(0, 0); odds(0, 0) = NO; tag(2, 1); odds(0, 0) = 1; odds(0, 1) = 1");
        run("23: one that isn't REACHED, whatever is cut", CHAIN, "cell(3, 0, 0) = 4; hold(4, 0, 4); odds(4, 0) = 0; odds(4, 1) = 1");
        run("23: each alike likely: those of CELLS that aren't REACHED, too", CHAIN, "odds(3, 0) = 0; odds(3, 1) = 1; cell(3, 0, 0) = 4; hold(4, 0, 0); odds(3, 0) = 1; odds(3, 1) = 4");
        run("23: not those of CELLS that are missing", CHAIN, "cell(3, 0, 0) = 4; hold(4, 0, 0); odds(3, 1) = 4; begin(0); step(99); sweep() = 1; odds(3, 0) = 0; odds(3, 1) = 1; odds(4, 0) = NO");
        run("23: two FIELDS that hold the same", "cell(1, 0, 0); cell(0, 0, 0); hold(0, 0, 1); root(0, 0); odds(1, 0) = 0; odds(1, 1) = 1; hold(0, 1, 1); odds(1, 0) = 1; odds(1, 1) = 1");
        run("23: while a MARKING runs", CHAIN, "begin(0); step(4); odds(3, 0) = 0; odds(2, 0) = 1; odds(2, 1) = 3; odds(0, 1) = 1");
    }

    static void oddsInLowestTerms() {
        run("23: two of three, one of three", CHAIN, "odds(1, 0) = 2; odds(1, 1) = 3; odds(2, 0) = 1; odds(2, 1) = 3");
        run("23: two of four", "'[1,2,3,4]' build(0); odds(1, 0) = 3; odds(1, 1) = 4", "'<<<<~>>>>' build(1); hold(0, 0, -1); hold(0, 1, -1); hold(0, 2, -1); odds(6, 0) = 3; odds(6, 1) = 4; odds(7, 0) = 1; odds(7, 1) = 2");
        run("23: all of 138 but one", times(23, "cell(2, 0, 6)"), times(23, "hold(#, 0, 0); hold(#, 1, 0); hold(#, 2, 0); hold(#, 3, 0); hold(#, 4, 0); hold(#, 5, 0)"),
            "cell(0, 0, 0) = 23; hold(0, 5, 23) = 0; root(0, 0); odds(23, 0) = 137; odds(23, 1) = 138; odds(0, 0) = 1; odds(0, 1) = 1; odds(1, 0) = 0; odds(1, 1) = 1");
    }

    static void mean() {
        run("24: NO: none are REACHED", "mean(0) = NO; mean(1) = NO; cell(0, 0, 0); mean(0) = NO; root(0, 0); mean(0) = 0; mean(1) = 1; root(0, -1); mean(1) = NO");
        run("24: NO: part, beyond 0 and 1", CHAIN, "mean(-1) = NO; mean(2) = NO; mean(MIN) = NO; mean(MAX) = NO; mean(0) = 3; mean(1) = 2");
        run("24: 0 of one is 0 of 1", "cell(0, 0, 0); cell(0, 0, 0); cell(0, 0, 0); root(0, 0); root(1, 1); root(2, 2); mean(0) = 0; mean(1) = 1");
        run("24: in lowest terms: 6 of 4", CHAIN, "mean(0) = 3; mean(1) = 2");
        run("24: in lowest terms: a whole number", "'<<1>>' build(0); mean(0) = 1; mean(1) = 1");
        run("24: of REACHED ones alone", CHAIN, "cell(0, 0, 0); mean(0) = 3; mean(1) = 2; root(1, 3); mean(0) = 3; mean(1) = 4; root(0, -1); mean(0) = 0; mean(1) = 1");
        run("24: as far as it can be", times(24, "cell(3, 0, 0)"), times(23, "hold(#, 0, @)"), "root(3, 0); mean(0) = 23; mean(1) = 2; begin(0); step(24); mean(0) = 23; mean(1) = 2");
    }
}
