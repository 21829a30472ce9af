import java.util.function.Supplier;

/** What the tests share: checks that count, drains that are quickly made, and calls that must change nothing. */
abstract class Checks {
    private static int wrong = 0;
    private static int checks = 0;

    interface Call {
        long ask(ShaftHunt x);
    }

    static void finish() {
        System.out.println(checks + " checks, " + wrong + " wrong");
        if (wrong != 0) {
            System.exit(1);
        }
    }

    static boolean due(String what, long got, long want) {
        checks++;
        if (got != want) {
            wrong++;
            System.out.println(what + " answered " + got + ", due is " + want);
        }
        return got == want;
    }

    static ShaftHunt plain(int shafts) {
        ShaftHunt x = new ShaftHunt();
        for (int a = 0; a < shafts; a++) {
            x.shaft(0, 1);
        }
        return x;
    }

    static ShaftHunt chain(int shafts) {
        ShaftHunt x = plain(shafts);
        for (int a = 0; a + 1 < shafts; a++) {
            x.pipe(a, a + 1, 0, 0);
        }
        return x;
    }

    static void write(ShaftHunt x, String text) {
        x.clear();
        for (int i = 0; i < text.length(); i++) {
            x.type(text.charAt(i));
        }
    }

    static int reads(ShaftHunt x, String text) {
        write(x, text);
        return x.reads();
    }

    static long bits(int... minutes) {
        long set = 0;
        for (int m : minutes) {
            set |= 1L << m;
        }
        return set;
    }

    static long span(int first, int last) {
        long set = 0;
        for (int m = first; m <= last; m++) {
            set |= 1L << m;
        }
        return set;
    }

    /** Four shafts of four kinds, four pipes and two sights, all by one text: one state. */
    static ShaftHunt rich() {
        ShaftHunt x = new ShaftHunt();
        reads(x, "s0 1;s1 4;s2 3;s4 11;p0 1 0 9;p0 2 1 1;p1 3 0 2;p2 3 3 3;e3 24;c1 6;");
        return x;
    }

    /** As much as there can be of everything: shafts, pipes, sights, bytes, states. */
    static ShaftHunt crammed() {
        ShaftHunt x = new ShaftHunt();
        for (int a = 0; a < 9; a++) {
            x.shaft(a % 5, a + 1);
        }
        for (int i = 0; i < 15; i++) {
            x.pipe(i % 3, 3 + i % 6, i % 4, i % 4 + 2);
        }
        for (int n = 0; n < 11; n++) {
            x.sight(n == 0 ? 1 : 0, n == 0 ? 3 : n % 9, n == 0 ? 9 : n % 3);
        }
        write(x, "x0;" + " ".repeat(117));
        x.shaft(4, 15);
        x.pipe(9, 0, 1, 4);
        x.sets(1, 1, 14);
        x.forget();
        x.back();
        x.sight(0, 9, 7);
        x.sets(0, 0, 2);
        return x;
    }

    /** A refused call, beside an object that never heard it: nothing differs but how often. */
    static void refuses(String what, Supplier<ShaftHunt> maker, Call call, int why) {
        ShaftHunt x = maker.get();
        ShaftHunt twin = maker.get();
        // A number that was taken, though it should not, might well keep later questions from ending.
        if (!due(what, call.ask(x), why)) {
            return;
        }
        for (int k = 0; k <= 2; k++) {
            due(what + ", told(" + k + ")", x.told(k), twin.told(k) + (k == -2 - why ? 1 : 0));
        }
        staysAlike(what, x, twin, why);
    }

    /** A call that is not counted as refused, yet changes nothing at all. */
    static void changesNothing(String what, Supplier<ShaftHunt> maker, Call call, long answer) {
        ShaftHunt x = maker.get();
        ShaftHunt twin = maker.get();
        due(what, call.ask(x), answer);
        staysAlike(what, x, twin, 0);
    }

    /** Holds two objects together now, at all states to go back to, and by what their texts do. */
    private static void staysAlike(String what, ShaftHunt x, ShaftHunt twin, int why) {
        due(what + " changes nothing", x.digest(), twin.digest() + weight(twin, why));
        for (int left = twin.told(7); left > 0; left--) {
            due(what + " leaves the states", x.back(), twin.back());
            due(what + " changes no state", x.digest(), twin.digest() + weight(twin, why));
        }
        due(what + " leaves the text", x.reads(), twin.reads());
        due(what + " changes no text", x.digest(), twin.digest() + weight(twin, why));
    }

    /** By how much a digest grows if a refusal of one sort was counted once more: told(0) to told(2) come first. */
    private static long weight(ShaftHunt x, int why) {
        if (why == 0) {
            return 0;
        }
        int shafts = x.told(4);
        int values = 8 + 7 * shafts + 4 * x.told(5) + shafts * shafts + 3;
        long weight = 1;
        for (int behind = values - 1 - (-2 - why); behind > 0; behind--) {
            weight *= 31;
        }
        return weight;
    }
}
