import java.lang.management.ManagementFactory;
import java.util.function.Consumer;

/** What holds of all calls together: 512 of them, the room that they take, the ends of all numbers. */
final class CallsEdgesTest extends Script {
    private static final int CALLS = 512;
    private static final String[] WITH_NUMBERS = {"cell(#, 0, 0) = NONE", "cell(0, #, 0) = BAD", "cell(2, 0, #) = BAD", "cell(5, 0, #) = BAD", "of(#, 0) = NONE",
        "of(0, #) = NONE", "field(#, 0) = NONE", "field(0, #) = NONE", "raw(#, 0) = NONE", "raw(0, #) = NONE", "hold(#, 0, 0) = NONE", "hold(0, #, 0) = NONE",
        "hold(0, 0, #) = NONE", "tag(#, 0) = NONE", "tag(0, #) = BAD", "root(#, 0) = NONE", "root(0, #) = NONE", "pin(#, true) = NONE", "feed(#) = BAD",
        "build(#) = NONE", "begin(#) = BAD", "step(#) = BAD", "told(#) = NONE", "on(#, 0) = BAD", "on(0, #) = NONE", "need(#, 0) = BAD", "need(0, #) = NONE",
        "least(#) = NONE", "see(#, 0, true) = NONE", "see(0, #, true) = BAD", "fits(#) = BAD", "can(#, 0, 0) = NONE", "can(0, #, 0) = BAD", "can(0, 0, #) = NONE",
        "odds(#, 0) = NO", "odds(0, #) = NO", "mean(#) = NO", "plan(#, 0) = NONE", "plan(0, #) = NONE", "plan(1, #) = NONE", "plan(2, #) = NONE",
        "book(#, 0, 0) = NONE", "book(0, #, 0) = NONE", "book(0, 0, #) = NONE", "judge(#, 0) = NONE", "judge(0, #) = 100", "taken(#, 0) = NOTHING", "taken(0, #) = BAD",
        "count(#) = BAD", "tape(#, 0, 0) = NONE", "tape(0, #, 0) = BAD", "item(#, 0, 0) = NONE", "item(0, #, 0) = PLACE", "read(#, 0) = NO", "read(0, #) = NO",
        "shift(#, 0, 0, 0, 0) = NONE", "shift(0, #, 0, 0, 0) = PLACE", "shift(0, 0, #, 0, 0) = NONE", "shift(0, 0, 0, #, 0) = PLACE", "shift(0, 0, 0, 0, #) = PLACE"};
    private static final String[] NUMBERS = {"MIN", "MAX", "-2147483647", "2147483646", "-65536", "65536", "4096", "1024", "512", "-6"};
    private static final String CELLS = "cell(3, 0, 0); cell(6, 3, 0); hold(0, 0, 1); hold(1, 1, 0); root(0, 0); tape(0, 4, 60);";

    public static void main(String[] args) {
        theEndsOfAllNumbers();
        theLastOfAllCalls();
        room();
        end();
    }

    static void theEndsOfAllNumbers() {
        for (String number : NUMBERS) {
            StringBuilder lines = new StringBuilder();
            for (String line : WITH_NUMBERS) {
                lines.append(line.replace("#", number)).append(';');
            }
            run("numbers that none are: none runs", CELLS, lines.toString());
            run("numbers that none are: one runs", CELLS, "begin(0); step(2);", lines.toString());
            run("numbers that none are: all is full", CELLS, times(22, "cell(0, 0, 0)"), times(5, "see(0, 0, true)"), times(10, "plan(0, 0)"), times(8, "book(0, 0, 1)"),
                times(100, "feed(60)"), "begin(0); step(99); image();", lines.toString());
        }
        run("34: n below 0 and above 60", "tape(0, 0, MIN) = SIZE; tape(0, 0, -6) = SIZE; tape(0, 0, MAX) = BAD; tape(0, 0, 65536) = BAD");
    }

    static void theLastOfAllCalls() {
        String some = times(24, "cell(3, 0, 0)") + times(23, "hold(#, 0, @)") + "root(0, 0);";
        run("512 calls: a MARKING by as many", some, times(48, "feed(60)"), times(412, "told(3)"), "begin(0) = 24; step(99) = 53; told(3) = 53; sweep() = 0");
        run("512 calls: FIELDS told all the time", "cell(3, 0, 0);", times(255, "hold(0, 0, 0); hold(0, 0, -1) = 0"), "hold(0, 0, -1) = -5");
        run("512 calls: THE IMAGE and back", "cell(0, 0, 0);", times(170, "image() = 1; cell(0, 0, 0) = 1; undo() = 1"), "count(0) = 1");
        run("512 calls: begun and BROKEN OFF", "cell(3, 0, 0); hold(0, 0, 0); root(0, 0);", times(127, "begin(0) = 1; step(1) = 1; told(3) = 1; leave() = 0"), "told(0) = 0");
        run("512 calls: texts", times(127, "feed(126) = 1; feed(126) = 2; feed(126) = 3; build(0) = -11"), "feed(49) = 1; build(0) = 1; count(0) = 1; told(15) = 0");
    }

    /** A new object takes room; no call of it does. */
    static void room() {
        room("a new object", 200 * 32_000, 200, x -> new ReversedLinks());
        ReversedLinks still = full();
        Consumer<ReversedLinks> all = x -> {
            x.fits(8);
            x.can(0, 0, 0);
            x.least(1);
            x.need(3, 0);
            x.odds(23, 0);
            x.mean(0);
            x.ends();
            x.looked();
            x.judge(0, 0);
            x.image();
            x.undo();
            for (int what = 0; what < 19; what++) {
                x.told(what);
                x.of(23, what);
            }
            for (char sign : "[[1,2,3,4,5,6],<A>".toCharArray()) {
                x.feed(sign);
            }
            x.build(0);
            x.begin(0);
            x.step(30);
            x.on(400, 2);
            x.pin(23, true);
            x.raw(3, 0);
            x.leave();
            x.tape(3, 3, 60);
            x.shift(3, 0, 3, 1, 59);
            x.book(-1, 0, 0);
            x.book(0, 0, 1);
        };
        room("as many calls of each", 64_000, CALLS, x -> all.accept(still));
    }

    private static ReversedLinks full() {
        ReversedLinks x = chain(24);
        x.see(23, 40, true);
        x.plan(0, 0);
        x.book(0, 0, 1);
        x.tape(0, 4, 60);
        return x;
    }

    private static void room(String what, long most, int times, Consumer<ReversedLinks> call) {
        com.sun.management.ThreadMXBean threads = (com.sun.management.ThreadMXBean) ManagementFactory.getThreadMXBean();
        for (int k = 0; k < 3; k++) {
            call.accept(null);
        }
        long before = threads.getCurrentThreadAllocatedBytes();
        for (int k = 0; k < times; k++) {
            call.accept(null);
        }
        long taken = threads.getCurrentThreadAllocatedBytes() - before;
        is(1, taken <= most ? 1 : 0, "room: " + what + " took " + taken + " bytes");
    }
}
