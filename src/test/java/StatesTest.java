import java.util.function.Supplier;

/** STATES at their edges: what leaves one, what does not, five at most, what a step back brings and what it leaves. */
public final class StatesTest extends Checks {
    public static void main(String[] args) {
        newObject();
        eachCallToldLeavesOne();
        alsoIfNothingChanges();
        othersLeaveNone();
        refusedLeavesNone();
        fiveAtMost();
        backBringsAllBack();
        backBringsSightsBack();
        backLeavesTextAndCounts();
        noStepForward();
        oneObjectAlone();
        digestOfNothing();
        digestOfAll();
        finish();
    }

    // No SHAFTS.
    private static void newObject() {
        ShaftHunt x = new ShaftHunt();
        for (int what = 0; what <= 7; what++) {
            due("told(" + what + ") at first", x.told(what), 0);
        }
        due("no SIGHTS to forget", new ShaftHunt().forget(), 0);
        due("no TEXT to clear", new ShaftHunt().clear(), 0);
        due("no STATE to go back to", new ShaftHunt().back(), -3);
        due("the first SHAFT is 0", new ShaftHunt().shaft(0, 1), 0);
    }

    /** A call told S on drains of one state: one state more, and a step back brings all back. */
    private static void leavesOne(String what, Call call, long answer) {
        ShaftHunt x = rich();
        long before = x.digest();
        due(what, call.ask(x), answer);
        due(what + " leaves a STATE", x.told(7), 2);
        due(what + ", back", x.back(), 1);
        due(what + ", all is as it was", x.digest(), before);
        ShaftHunt y = rich();
        call.ask(y);
        y.back();
        due(what + ", the STATE ahead of it stays", y.back(), 0);
        due(what + ", no SHAFTS there", y.told(4), 0);
    }

    private static void eachCallToldLeavesOne() {
        leavesOne("shaft", x -> x.shaft(3, 7), 4);
        leavesOne("sets' KIND", x -> x.sets(3, 0, 0), 4);
        leavesOne("sets' P", x -> x.sets(1, 1, 15), 4);
        leavesOne("pipe", x -> x.pipe(0, 3, 0, 9), 4);
        leavesOne("drops the first", x -> x.drops(0), 3);
        leavesOne("drops the last", x -> x.drops(3), 3);
        leavesOne("sight, SEEN", x -> x.sight(1, 3, 62), 3);
        leavesOne("sight, CLEAN", x -> x.sight(0, 3, 0), 3);
        leavesOne("forget", x -> x.forget(), 2);
        // The text of these drains does not fit them twice: another one stands in its place, as long.
        ShaftHunt x = rich();
        write(x, "x0;x0;s1 1;s1 2;p5 4 0 0;c4 4;" + " ".repeat(38));
        long before = x.digest();
        due("reads", x.reads(), 6);
        due("reads leaves a STATE", x.told(7), 2);
        due("reads, back", x.back(), 1);
        due("reads, all is as it was", x.digest(), before);
    }

    // Also if nothing changes by it.
    private static void alsoIfNothingChanges() {
        leavesOne("sets the same KIND", x -> x.sets(3, 0, 4), 4);
        leavesOne("sets the same P", x -> x.sets(3, 1, 11), 11);
        ShaftHunt x = new ShaftHunt();
        due("forget of none", x.forget(), 0);
        due("forget of none leaves a STATE", x.told(7), 1);
        due("forget of none again", x.forget(), 0);
        due("forget of none again leaves a STATE", x.told(7), 2);
        due("back", x.back(), 1);
        due("back", x.back(), 0);
        due("no more", x.back(), -3);
        ShaftHunt y = chain(2);
        due("a PIPE goes and comes", reads(y, "x0;p0 1 0 0;"), 2);
        due("that leaves a STATE", y.told(7), 4);
    }

    private static void leavesNone(String what, Supplier<ShaftHunt> maker, Call call, long answer) {
        ShaftHunt x = maker.get();
        int states = x.told(7);
        due(what, call.ask(x), answer);
        due(what + " leaves no STATE", x.told(7), states);
    }

    private static void othersLeaveNone() {
        leavesNone("of", Checks::rich, x -> x.of(0, 2), 2);
        leavesNone("about", Checks::rich, x -> x.about(0, 1), 1);
        leavesNone("comes", Checks::rich, x -> x.comes(0, 0, 2), 2);
        leavesNone("times", Checks::rich, x -> x.times(0, 0, 2, 2), 1);
        leavesNone("leaves", Checks::rich, x -> x.leaves(2, 0), 3);
        leavesNone("fits", Checks::rich, x -> x.fits(3, 0), 0);
        leavesNone("when", Checks::rich, x -> x.when(3), 1 << 24);
        leavesNone("suspects", Checks::rich, x -> x.suspects(), 15);
        leavesNone("next", Checks::rich, x -> x.next(1), 2);
        leavesNone("alike", Checks::rich, x -> x.alike(0), 6);
        leavesNone("sensors", Checks::rich, x -> x.sensors(1), 2);
        leavesNone("type", Checks::rich, x -> x.type(';'), 69);
        leavesNone("clear", Checks::rich, x -> x.clear(), 68);
        leavesNone("reads with a FAULT", Checks::rich, x -> reads(x, "s0 1;;"), -15);
        leavesNone("reads stopped", Checks::rich, x -> reads(x, "s0 1;x4;"), -1001);
        leavesNone("told", Checks::rich, x -> x.told(7), 1);
    }

    private static void refusedLeavesNone() {
        leavesNone("shaft", Checks::rich, x -> x.shaft(0, 0), -2);
        leavesNone("shaft", () -> plain(10), x -> x.shaft(0, 1), -4);
        leavesNone("sets", Checks::rich, x -> x.sets(0, 1, 0), -2);
        leavesNone("pipe", Checks::rich, x -> x.pipe(0, 0, 0, 0), -2);
        leavesNone("pipe", Checks::rich, x -> x.pipe(3, 0, 0, 0), -3);
        leavesNone("drops", Checks::rich, x -> x.drops(4), -2);
        leavesNone("sight", Checks::rich, x -> x.sight(1, 4, 0), -2);
        leavesNone("back", ShaftHunt::new, x -> x.back(), -3);
        ShaftHunt x = plain(2);
        reads(x, "p0 1 0 0;".repeat(13));
        reads(x, "p0 1 0 0;".repeat(3));
        due("pipe when FULL", x.pipe(0, 1, 0, 0), -4);
        due("leaves no STATE", x.told(7), 4);
        reads(x, "c0 0;".repeat(12));
        x.back();
        reads(x, "c0 0;".repeat(12));
        due("sight when FULL", x.sight(0, 0, 0), -4);
        due("leaves no STATE", x.told(7), 5);
        due("back", x.back(), 4);
    }

    // 5 at most, older ones lost.
    private static void fiveAtMost() {
        for (int made = 0; made <= 8; made++) {
            ShaftHunt x = plain(made);
            int most = Math.min(made, 5);
            due("STATES behind " + made, x.told(7), most);
            for (int left = most - 1; left >= 0; left--) {
                due("back, of " + made, x.back(), left);
                due("SHAFTS, of " + made, x.told(4), made - most + left);
                due("STATES, of " + made, x.told(7), left);
            }
            due("none is left, of " + made, x.back(), -3);
            due("SHAFTS stay, of " + made, x.told(4), made - most);
            due("NO is counted, of " + made, x.told(1), 1);
        }
        ShaftHunt y = plain(1);
        for (int p = 2; p <= 15; p++) {
            y.sets(0, 1, p);
        }
        for (int p = 14; p >= 10; p--) {
            y.back();
            due("P gone back", y.of(0, 1), p);
        }
        due("older ones are lost", y.back(), -3);
        due("P stays", y.of(0, 1), 10);
        for (int p = 1; p <= 5; p++) {
            y.sets(0, 1, p);
        }
        y.back();
        y.back();
        y.sets(0, 1, 15);
        y.sets(0, 1, 14);
        y.sets(0, 1, 13);
        int[] paces = {14, 15, 3, 2, 1};
        for (int p : paces) {
            y.back();
            due("P gone back, of old and new ones", y.of(0, 1), p);
        }
        due("older ones are lost", y.back(), -3);
    }

    private static void backBringsAllBack() {
        ShaftHunt x = crammed();
        long before = x.digest();
        x.forget();
        due("no SIGHTS", x.told(6), 0);
        due("back", x.back(), 4);
        due("SIGHTS are back", x.told(6), 12);
        due("TIMES are back", x.when(0), span(4, 8));
        x.sets(2, 1, 3);
        due("all is back", x.back() == 4 ? x.when(9) : 0, crammed().when(9));
        x.forget();
        x.back();
        x.sets(0, 0, 2);
        due("all is as it was", x.digest(), before);
        ShaftHunt y = chain(3);
        y.drops(0);
        due("a ring is none now", y.of(0, 4), 1);
        y.back();
        due("the PIPE is back", y.of(0, 4), 7);
        due("the ring, too", y.pipe(2, 0, 0, 0), -3);
        ShaftHunt z = plain(1);
        z.shaft(4, 15);
        z.back();
        due("the SHAFT is gone", z.of(1, 0), -2);
        due("and not BELOW any", z.of(0, 4), 1);
        due("a new one takes its number", z.shaft(0, 2), 1);
        due("of its own KIND", z.of(1, 0), 0);
        due("of its own P", z.of(1, 1), 2);
    }

    /** Sights that were forgotten and written over by others: each row of them comes back, asked before or not. */
    private static void backBringsSightsBack() {
        int[][] others = {{0, 0, 7}, {1, 1, 7}, {1, 0, 9}};
        for (int[] other : others) {
            ShaftHunt x = plain(2);
            x.sight(1, 0, 7);
            due("TIMES of the first SIGHT", x.when(0), bits(7));
            x.forget();
            due("TIMES without SIGHTS", x.when(0), Integer.MAX_VALUE);
            x.sight(other[0], other[1], other[2]);
            due("another SIGHT", x.when(0) == bits(7) ? 1 : 0, 0);
            due("back to none", x.back(), 4);
            due("TIMES without SIGHTS again", x.when(0), Integer.MAX_VALUE);
            due("back to the first SIGHT", x.back(), 3);
            due("TIMES of the first SIGHT again", x.when(0), bits(7));
            due("its SHAFT is the SUSPECT again", x.suspects(), 1);
        }
    }

    // All but THE TEXT and how often refused.
    private static void backLeavesTextAndCounts() {
        ShaftHunt x = new ShaftHunt();
        x.forget();
        x.type('s');
        x.type('0');
        x.told(8);
        x.told(8);
        x.told(8);
        x.shaft(0, 1);
        for (int n = 0; n < 9; n++) {
            x.shaft(0, 1);
        }
        x.shaft(0, 1);
        x.shaft(0, 1);
        x.pipe(0, 1, 0, 0);
        x.pipe(1, 0, 0, 0);
        for (int n = 0; n < 5; n++) {
            x.back();
        }
        due("bytes stay", x.told(3), 2);
        due("BAD stays", x.told(0), 3);
        due("NO stays", x.told(1), 1);
        due("FULL stays", x.told(2), 2);
        x.type(' ');
        x.type('9');
        x.type(';');
        due("the bytes stay what they were", x.reads(), 1);
        due("P", x.of(x.told(4) - 1, 1), 9);
        ShaftHunt y = new ShaftHunt();
        y.forget();
        write(y, "s0 1;");
        y.forget();
        y.clear();
        y.back();
        y.back();
        due("a TEXT that was cleared stays so", y.reads(), -10);
    }

    private static void noStepForward() {
        ShaftHunt x = plain(3);
        x.back();
        x.back();
        due("one SHAFT", x.told(4), 1);
        due("one STATE", x.told(7), 1);
        x.sets(0, 1, 5);
        due("two STATES", x.told(7), 2);
        x.back();
        x.back();
        due("no SHAFT", x.told(4), 0);
        due("no STATE", x.back(), -3);
        due("a new SHAFT", x.shaft(1, 2), 0);
        due("one STATE", x.told(7), 1);
    }

    private static void oneObjectAlone() {
        ShaftHunt x = crammed();
        ShaftHunt y = rich();
        long before = x.digest();
        y.back();
        y.told(8);
        y.clear();
        y.shaft(0, 1);
        due("another object changes nothing", x.digest(), before);
        due("nor does a new one", new ShaftHunt().told(4), 0);
        due("all are as they were", x.digest(), before);
    }

    private static long times31(long h, long... values) {
        for (long v : values) {
            h = 31 * h + v;
        }
        return h;
    }

    // h = 2557; then h = 31 h + v for each v.
    private static void digestOfNothing() {
        due("of a new object", new ShaftHunt().digest(), times31(2557, 0, 0, 0, 0, 0, 0, 0, 0, -1, -1, 0));
        ShaftHunt x = new ShaftHunt();
        x.told(-1);
        x.back();
        x.back();
        x.type(1);
        x.type(2);
        x.type(3);
        due("of counts and bytes", x.digest(), times31(2557, 1, 2, 0, 3, 0, 0, 0, 0, -1, -1, 0));
        due("it asks no refused question", x.told(0), 1);
        due("of one SHAFT", plain(1).digest(),
                times31(2557, 0, 0, 0, 0, 1, 0, 0, 1, 0, 1, 0, 0, 1, 1, Integer.MAX_VALUE, 32, 0, 1, 0));
    }

    private static void digestOfAll() {
        ShaftHunt x = new ShaftHunt();
        x.shaft(2, 10);
        x.shaft(3, 15);
        x.pipe(1, 0, 2, 3);
        x.sight(1, 0, 30);
        x.drops(1);
        x.pipe(0, 1, 0, 0);
        long h = times31(2557, 1, 1, 0, 0, 2, 1, 1, 4);
        h = times31(h, 2, 10, 0, 1, 1, 3, bits(30));
        h = times31(h, 3, 15, 1, 0, 3, 2, bits(27, 28));
        h = times31(h, 1, 0, 2, 3);
        // A START at 5 leaves the weir of 15 not at all.
        h = times31(h, 32, 0, 0, 32);
        h = times31(h, 1, 1, 2);
        due("of two SHAFTS", x.digest(), h);
        x.sets(1, 1, 5);
        h = times31(2557, 1, 1, 0, 0, 2, 1, 1, 5);
        h = times31(h, 2, 10, 0, 1, 1, 3, bits(30));
        h = times31(h, 3, 5, 1, 0, 3, 2, bits(27, 28));
        h = times31(h, 1, 0, 2, 3);
        h = times31(h, 32, bits(7, 8), 0, 32);
        h = times31(h, 1, 1, 2);
        due("b by b, in each a rising", x.digest(), h);
        due("it leaves no STATE", x.told(7), 5);
    }
}
