import java.util.function.Supplier;

/**
 * Every number of every call, at both ends: the last value that is as told and the first that is not; what is FULL;
 * what would be a ring; which refusal comes first. Every refused call is held against an object that never heard it.
 */
public final class RangesTest extends Checks {
    private interface Probe {
        long ask(ShaftHunt x, int v);
    }

    public static void main(String[] args) {
        kinds();
        paces();
        shaftsOfNone();
        shaftsOfOne();
        shaftsOfTen();
        pipeNumbers();
        lowAndHigh();
        whats();
        starts();
        minutes();
        sorts();
        sets();
        bytes();
        fullShafts();
        fullPipes();
        fullSights();
        fullText();
        rings();
        firstOfTheRefusals();
        callsWithoutNumbers();
        finish();
    }

    private static void range(String what, Supplier<ShaftHunt> maker, Probe probe, int least, long atLeast, int most,
            long atMost) {
        accepts(what, maker, probe, least, atLeast);
        accepts(what, maker, probe, most, atMost);
        int[] outside = {least - 1, most + 1, -1, Integer.MIN_VALUE, Integer.MAX_VALUE};
        for (int v : outside) {
            if (v < least || v > most) {
                refuses(what + " " + v, maker, x -> probe.ask(x, v), ShaftHunt.BAD);
            }
        }
    }

    private static void accepts(String what, Supplier<ShaftHunt> maker, Probe probe, int v, long answer) {
        ShaftHunt x = maker.get();
        int refused = x.told(0) + x.told(1) + x.told(2);
        due(what + " " + v, probe.ask(x, v), answer);
        due(what + " " + v + " is not refused", x.told(0) + x.told(1) + x.told(2), refused);
    }

    private static void none(String what, Supplier<ShaftHunt> maker, Probe probe) {
        int[] all = {-1, 0, 1, 9, 10, Integer.MIN_VALUE, Integer.MAX_VALUE};
        for (int v : all) {
            refuses(what + " " + v, maker, x -> probe.ask(x, v), ShaftHunt.BAD);
        }
    }

    // KIND: 0 PLAIN .. 4 SLOW PUMP.
    private static void kinds() {
        range("shaft's KIND", ShaftHunt::new, (x, v) -> x.shaft(v, 1), 0, 0, 4, 0);
        range("shaft's KIND", Checks::rich, (x, v) -> x.shaft(v, 15), 0, 4, 4, 4);
        range("sets' KIND", Checks::rich, (x, v) -> x.sets(3, 0, v), 0, 4, 4, 4);
        for (int kind = 0; kind <= 4; kind++) {
            ShaftHunt x = new ShaftHunt();
            x.shaft(kind, 1);
            due("KIND " + kind + " is kept", x.of(0, 0), kind);
            x.sets(0, 0, 4 - kind);
            due("KIND " + kind + " becomes another", x.of(0, 0), 4 - kind);
        }
    }

    // a P (1 .. 15).
    private static void paces() {
        range("shaft's P", ShaftHunt::new, (x, v) -> x.shaft(0, v), 1, 0, 15, 0);
        range("shaft's P", Checks::rich, (x, v) -> x.shaft(4, v), 1, 4, 15, 4);
        range("sets' P", Checks::rich, (x, v) -> x.sets(3, 1, v), 1, 11, 15, 11);
        refuses("sets' P of 0 (a KIND)", () -> plain(1), x -> x.sets(0, 1, 0), ShaftHunt.BAD);
        refuses("sets' KIND of 5 (a P)", () -> plain(1), x -> x.sets(0, 0, 5), ShaftHunt.BAD);
        for (int p = 1; p <= 15; p++) {
            ShaftHunt x = new ShaftHunt();
            x.shaft(0, p);
            due("P " + p + " is kept", x.of(0, 1), p);
            x.sets(0, 1, 16 - p);
            due("P " + p + " becomes another", x.of(0, 1), 16 - p);
        }
    }

    // No SHAFTS: no number is that of one.
    private static void shaftsOfNone() {
        Supplier<ShaftHunt> empty = ShaftHunt::new;
        none("sets without SHAFTS", empty, (x, v) -> x.sets(v, 0, 0));
        none("pipe's a without SHAFTS", empty, (x, v) -> x.pipe(v, 1, 0, 0));
        none("pipe's b without SHAFTS", empty, (x, v) -> x.pipe(0, v, 0, 0));
        none("drops without PIPES", empty, (x, v) -> x.drops(v));
        none("of without SHAFTS", empty, (x, v) -> x.of(v, 4));
        none("about without PIPES", empty, (x, v) -> x.about(v, 0));
        none("comes without SHAFTS", empty, (x, v) -> x.comes(v, 0, v));
        none("times without SHAFTS", empty, (x, v) -> x.times(v, 0, v, 2));
        none("leaves without SHAFTS", empty, (x, v) -> x.leaves(v, 0));
        none("sight without SHAFTS", empty, (x, v) -> x.sight(1, v, 0));
        none("fits without SHAFTS", empty, (x, v) -> x.fits(v, 0));
        none("when without SHAFTS", empty, (x, v) -> x.when(v));
        none("drops without PIPES", () -> plain(10), (x, v) -> x.drops(v));
        none("about without PIPES", () -> plain(10), (x, v) -> x.about(v, 0));
    }

    // SHAFTS as they come: of one there is number 0 alone.
    private static void shaftsOfOne() {
        Supplier<ShaftHunt> one = () -> plain(1);
        range("sets' SHAFT of one", one, (x, v) -> x.sets(v, 1, 9), 0, 1, 0, 1);
        none("pipe's b of one", one, (x, v) -> x.pipe(0, v, 0, 0));
        none("pipe's a of one", one, (x, v) -> x.pipe(v, 0, 0, 0));
        range("of's SHAFT of one", one, (x, v) -> x.of(v, 4), 0, 1, 0, 1);
        range("comes' a of one", one, (x, v) -> x.comes(v, 3, 0), 0, 8, 0, 8);
        range("comes' b of one", one, (x, v) -> x.comes(0, 3, v), 0, 8, 0, 8);
        range("times' a of one", one, (x, v) -> x.times(v, 3, 0, 0), 0, 3, 0, 3);
        range("times' b of one", one, (x, v) -> x.times(0, 3, v, 0), 0, 3, 0, 3);
        range("leaves' SHAFT of one", one, (x, v) -> x.leaves(v, 5), 0, 5, 0, 5);
        range("sight's SHAFT of one", one, (x, v) -> x.sight(0, v, 5), 0, 1, 0, 1);
        range("fits' SHAFT of one", one, (x, v) -> x.fits(v, 5), 0, 1, 0, 1);
        range("when's SHAFT of one", one, (x, v) -> x.when(v), 0, Integer.MAX_VALUE, 0, Integer.MAX_VALUE);
    }

    // SHAFTS 0 .. 9.
    private static void shaftsOfTen() {
        Supplier<ShaftHunt> ten = () -> chain(10);
        range("sets' SHAFT", ten, (x, v) -> x.sets(v, 0, 4), 0, 0, 9, 0);
        range("pipe's a", () -> plain(10), (x, v) -> x.pipe(v, 5, 1, 1), 0, 0, 9, 0);
        range("pipe's b", () -> plain(10), (x, v) -> x.pipe(5, v, 1, 1), 0, 0, 9, 0);
        range("of's SHAFT", ten, (x, v) -> x.of(v, 4), 0, 1023, 9, 512);
        range("comes' a", ten, (x, v) -> x.comes(v, 6, 9), 0, 64, 9, 64);
        range("comes' b", ten, (x, v) -> x.comes(0, 6, v), 0, 64, 9, 64);
        range("times' a", ten, (x, v) -> x.times(v, 6, 9, 1), 0, 6, 9, 6);
        range("times' b", ten, (x, v) -> x.times(0, 6, v, 1), 0, 6, 9, 6);
        range("leaves' SHAFT", ten, (x, v) -> x.leaves(v, 6), 0, 6, 9, 6);
        range("sight's SHAFT", ten, (x, v) -> x.sight(1, v, 6), 0, 1, 9, 1);
        range("fits' SHAFT", ten, (x, v) -> x.fits(v, 6), 0, 1, 9, 1);
        range("when's SHAFT", ten, (x, v) -> x.when(v), 0, Integer.MAX_VALUE, 9, Integer.MAX_VALUE);
    }

    // PIPES 0 .. 15, as they come.
    private static void pipeNumbers() {
        range("drops' PIPE of one", () -> chain(2), (x, v) -> x.drops(v), 0, 0, 0, 0);
        range("drops' PIPE of four", Checks::rich, (x, v) -> x.drops(v), 0, 3, 3, 3);
        range("drops' PIPE of all", Checks::crammed, (x, v) -> x.drops(v), 0, 15, 15, 15);
        range("about's PIPE of one", () -> chain(2), (x, v) -> x.about(v, 1), 0, 1, 0, 1);
        range("about's PIPE of four", Checks::rich, (x, v) -> x.about(v, 1), 0, 1, 3, 3);
        range("about's PIPE of all", Checks::crammed, (x, v) -> x.about(v, 0), 0, 0, 15, 9);
    }

    // LOW and HIGH (0 .. 9, LOW no more than HIGH).
    private static void lowAndHigh() {
        Supplier<ShaftHunt> two = () -> plain(2);
        range("LOW", two, (x, v) -> x.pipe(0, 1, v, 9), 0, 0, 9, 0);
        range("HIGH", two, (x, v) -> x.pipe(0, 1, 0, v), 0, 0, 9, 0);
        range("LOW to HIGH 4", two, (x, v) -> x.pipe(0, 1, v, 4), 0, 0, 4, 0);
        range("HIGH from LOW 4", two, (x, v) -> x.pipe(0, 1, 4, v), 4, 0, 9, 0);
        range("LOW alike HIGH", two, (x, v) -> x.pipe(0, 1, v, v), 0, 0, 9, 0);
        for (int low = 0; low <= 9; low++) {
            ShaftHunt x = plain(2);
            x.pipe(0, 1, low, 9);
            x.pipe(0, 1, 0, low);
            due("LOW " + low + " is kept", x.about(0, 2), low);
            due("HIGH 9 is kept", x.about(0, 3), 9);
            due("LOW 0 is kept", x.about(1, 2), 0);
            due("HIGH " + low + " is kept", x.about(1, 3), low);
        }
    }

    private static void whats() {
        range("sets' what", () -> plain(1), (x, v) -> x.sets(0, v, 1), 0, 0, 1, 1);
        range("of's what", Checks::rich, (x, v) -> x.of(3, v), 0, 4, 5, 15);
        range("about's what", Checks::rich, (x, v) -> x.about(2, v), 0, 1, 3, 2);
        range("times' what", Checks::rich, (x, v) -> x.times(0, 0, 1, v), 0, 0, 2, 10);
        range("times' what where none is", () -> plain(2), (x, v) -> x.times(0, 0, 1, v), 0, -1, 2, 0);
        range("next's what", () -> chain(6), (x, v) -> x.next(v), 0, 2, 1, 3);
        range("next's what without SHAFTS", ShaftHunt::new, (x, v) -> x.next(v), 0, -1, 1, -1);
        range("sensors' what", () -> chain(6), (x, v) -> x.sensors(v), 0, 31, 1, 5);
        range("sensors' what without SHAFTS", ShaftHunt::new, (x, v) -> x.sensors(v), 0, 0, 1, 0);
        range("told's what", Checks::rich, (x, v) -> x.told(v), 0, 0, 7, 1);
        range("told's what at first", ShaftHunt::new, (x, v) -> x.told(v), 0, 0, 7, 0);
    }

    // A START: a SHAFT and a MINUTE (0 .. 30).
    private static void starts() {
        Supplier<ShaftHunt> two = () -> chain(2);
        range("comes' MINUTE", two, (x, v) -> x.comes(0, v, 1), 0, 1, 30, 1L << 30);
        range("times' MINUTE", two, (x, v) -> x.times(0, v, 1, 0), 0, 0, 30, 30);
        range("times' MINUTE, how many", two, (x, v) -> x.times(0, v, 1, 2), 0, 1, 30, 1);
        range("fits' MINUTE", two, (x, v) -> x.fits(0, v), 0, 1, 30, 1);
    }

    // MINUTES 0 .. 62.
    private static void minutes() {
        range("leaves' MINUTE", () -> plain(1), (x, v) -> x.leaves(0, v), 0, 0, 62, 62);
        range("a weir's MINUTE", () -> {
            ShaftHunt x = new ShaftHunt();
            x.shaft(3, 15);
            return x;
        }, (x, v) -> x.leaves(0, v), 0, -1, 62, 62);
        range("SEEN's MINUTE", Checks::rich, (x, v) -> x.sight(1, 0, v), 0, 3, 62, 3);
        range("CLEAN's MINUTE", Checks::rich, (x, v) -> x.sight(0, 0, v), 0, 3, 62, 3);
    }

    // SEEN (sort 1), CLEAN (0).
    private static void sorts() {
        range("sight's sort", Checks::rich, (x, v) -> x.sight(v, 0, 0), 0, 3, 1, 3);
        range("sight's sort at first", () -> plain(1), (x, v) -> x.sight(v, 0, 62), 0, 1, 1, 1);
    }

    // A set has bits of SHAFTS alone.
    private static void sets() {
        range("alike's set without SHAFTS", ShaftHunt::new, (x, v) -> x.alike(v), 0, 0, 0, 0);
        range("alike's set of one", () -> plain(1), (x, v) -> x.alike(v), 0, 0, 1, 0);
        range("alike's set of two", () -> plain(2), (x, v) -> x.alike(v), 0, 1, 3, 0);
        range("alike's set of nine", () -> plain(9), (x, v) -> x.alike(v), 0, 36, 511, 0);
        range("alike's set of ten", () -> plain(10), (x, v) -> x.alike(v), 0, 45, 1023, 0);
        for (int bit = 10; bit <= 31; bit++) {
            int far = 1 << bit;
            refuses("alike's bit " + bit, () -> plain(10), x -> x.alike(far), ShaftHunt.BAD);
            refuses("alike's bit " + bit + ", too", () -> plain(10), x -> x.alike(far | 5), ShaftHunt.BAD);
        }
    }

    // A byte (0 .. 127).
    private static void bytes() {
        range("type's byte", ShaftHunt::new, (x, v) -> x.type(v), 0, 1, 127, 1);
        range("type's byte behind others", Checks::rich, (x, v) -> x.type(v), 0, 69, 127, 69);
        refuses("type's byte 256 + 's'", ShaftHunt::new, x -> x.type(256 + 's'), ShaftHunt.BAD);
    }

    // FULL: 10.
    private static void fullShafts() {
        ShaftHunt x = new ShaftHunt();
        for (int a = 0; a < 10; a++) {
            due("SHAFT as they come", x.shaft(4, 15), a);
            due("SHAFTS", x.told(4), a + 1);
        }
        due("the eleventh SHAFT", x.shaft(4, 15), -4);
        due("the tenth goes", x.back(), 4);
        due("there is room again", x.shaft(0, 1), 9);
        due("and no more", x.shaft(0, 1), -4);
        due("FULL is counted", x.told(2), 2);
        refuses("shaft when FULL", () -> plain(10), y -> y.shaft(0, 1), ShaftHunt.FULL);
        refuses("shaft when all is FULL", Checks::crammed, y -> y.shaft(4, 15), ShaftHunt.FULL);
    }

    // FULL: 16.
    private static void fullPipes() {
        ShaftHunt x = plain(2);
        for (int i = 0; i < 16; i++) {
            due("PIPE as they come, two between the same may be", x.pipe(0, 1, i % 10, 9), i);
            due("PIPES", x.told(5), i + 1);
        }
        due("PIPES that leave", x.of(0, 2), 16);
        due("PIPES that come", x.of(1, 3), 16);
        due("the seventeenth PIPE", x.pipe(0, 1, 0, 0), -4);
        due("one goes", x.drops(0), 15);
        due("there is room again", x.pipe(0, 1, 8, 8), 15);
        due("the last PIPE is the new one", x.about(15, 2), 8);
        due("and no more", x.pipe(0, 1, 0, 0), -4);
        due("FULL is counted", x.told(2), 2);
        refuses("pipe when FULL", Checks::crammed, y -> y.pipe(0, 5, 0, 9), ShaftHunt.FULL);
    }

    // SIGHTS (12 at most).
    private static void fullSights() {
        ShaftHunt x = plain(1);
        for (int n = 1; n <= 12; n++) {
            due("how many SIGHTS", x.sight(n % 2, 0, 62), n);
            due("SIGHTS", x.told(6), n);
        }
        due("the thirteenth SIGHT, SEEN", x.sight(1, 0, 0), -4);
        due("the thirteenth SIGHT, CLEAN", x.sight(0, 0, 0), -4);
        due("one goes", x.back(), 4);
        due("there is room for one", x.sight(1, 0, 9), 12);
        due("and no more", x.sight(1, 0, 9), -4);
        due("all go", x.forget(), 12);
        due("there is room again", x.sight(0, 0, 9), 1);
        due("FULL is counted", x.told(2), 3);
        refuses("sight when FULL", Checks::crammed, y -> y.sight(1, 0, 0), ShaftHunt.FULL);
        refuses("sight when FULL", Checks::crammed, y -> y.sight(0, 9, 62), ShaftHunt.FULL);
    }

    // THE TEXT (120 bytes at most).
    private static void fullText() {
        ShaftHunt x = new ShaftHunt();
        for (int n = 1; n <= 120; n++) {
            due("how many bytes", x.type(n == 120 ? ';' : ' '), n);
        }
        due("bytes", x.told(3), 120);
        due("the byte behind the last", x.type(' '), -4);
        due("the last byte stands at 119", x.reads(), -10 - 119);
        due("all go", x.clear(), 120);
        due("there is room again", x.type(' '), 1);
        due("FULL is counted", x.told(2), 1);
        refuses("type when FULL", Checks::crammed, y -> y.type('x'), ShaftHunt.FULL);
        refuses("type of byte 0 when FULL", Checks::crammed, y -> y.type(0), ShaftHunt.FULL);
        refuses("type of byte 127 when FULL", Checks::crammed, y -> y.type(127), ShaftHunt.FULL);
    }

    // There is no ring.
    private static void rings() {
        for (int length = 2; length <= 10; length++) {
            int last = length - 1;
            refuses("a ring of " + length, () -> chain(last + 1), x -> x.pipe(last, 0, 9, 9), ShaftHunt.NO);
            due("no ring of " + length, chain(length).pipe(0, last, 9, 9), last);
        }
        refuses("a ring among more", () -> chain(10), x -> x.pipe(7, 3, 0, 0), ShaftHunt.NO);
        refuses("a ring told from below", () -> {
            ShaftHunt x = plain(4);
            x.pipe(2, 3, 0, 0);
            x.pipe(1, 2, 0, 0);
            x.pipe(0, 1, 0, 0);
            return x;
        }, x -> x.pipe(3, 0, 0, 0), ShaftHunt.NO);
        refuses("a ring by weirs that let nothing by", () -> {
            ShaftHunt x = chain(3);
            x.sets(0, 0, 3);
            x.sets(0, 1, 15);
            return x;
        }, x -> x.pipe(2, 0, 0, 0), ShaftHunt.NO);
        ShaftHunt x = chain(3);
        due("two ways to one SHAFT are no ring", x.pipe(0, 2, 0, 0), 2);
        x.drops(1);
        due("one way of two is left", x.pipe(2, 0, 0, 0), -3);
        x.drops(1);
        due("no way is left", x.pipe(2, 0, 0, 0), 1);
        due("now the other one would be a ring", x.pipe(1, 2, 0, 0), -3);
        x.back();
        due("gone back it would not", x.pipe(1, 2, 0, 0), 1);
        due("NO is counted", x.told(1), 2);
    }

    // Refused .., the first of: BAD, NO, FULL.
    private static void firstOfTheRefusals() {
        Supplier<ShaftHunt> full = Checks::crammed;
        refuses("NO ahead of FULL", full, x -> x.pipe(3, 0, 0, 0), ShaftHunt.NO);
        refuses("BAD ahead of NO and FULL: LOW", full, x -> x.pipe(3, 0, -1, 0), ShaftHunt.BAD);
        refuses("BAD ahead of NO and FULL: HIGH", full, x -> x.pipe(3, 0, 0, 10), ShaftHunt.BAD);
        refuses("BAD ahead of NO and FULL: LOW above HIGH", full, x -> x.pipe(3, 0, 1, 0), ShaftHunt.BAD);
        refuses("BAD ahead of FULL: a", full, x -> x.pipe(10, 0, 0, 0), ShaftHunt.BAD);
        refuses("BAD ahead of FULL: b", full, x -> x.pipe(0, 10, 0, 0), ShaftHunt.BAD);
        refuses("BAD ahead of FULL: a alike b", full, x -> x.pipe(3, 3, 0, 0), ShaftHunt.BAD);
        refuses("BAD, not NO: a alike b", () -> plain(1), x -> x.pipe(0, 0, 0, 0), ShaftHunt.BAD);
        refuses("BAD ahead of NO: LOW", () -> chain(2), x -> x.pipe(1, 0, -1, 0), ShaftHunt.BAD);
        refuses("BAD ahead of NO: HIGH", () -> chain(2), x -> x.pipe(1, 0, 9, 10), ShaftHunt.BAD);
        refuses("BAD ahead of FULL: KIND", full, x -> x.shaft(5, 1), ShaftHunt.BAD);
        refuses("BAD ahead of FULL: P", full, x -> x.shaft(4, 16), ShaftHunt.BAD);
        refuses("BAD ahead of FULL: sort", full, x -> x.sight(2, 0, 0), ShaftHunt.BAD);
        refuses("BAD ahead of FULL: SHAFT", full, x -> x.sight(0, 10, 0), ShaftHunt.BAD);
        refuses("BAD ahead of FULL: MINUTE", full, x -> x.sight(1, 0, 63), ShaftHunt.BAD);
        refuses("BAD ahead of FULL: byte", full, x -> x.type(128), ShaftHunt.BAD);
        refuses("BAD ahead of FULL: byte", full, x -> x.type(-1), ShaftHunt.BAD);
    }

    // These have no numbers: nothing of them is ever refused but a step back where there is none.
    private static void callsWithoutNumbers() {
        refuses("back at first", ShaftHunt::new, x -> x.back(), ShaftHunt.NO);
        ShaftHunt x = new ShaftHunt();
        x.suspects();
        x.forget();
        x.clear();
        x.reads();
        x.digest();
        due("nothing is refused", x.told(0) + x.told(1) + x.told(2), 0);
        ShaftHunt y = new ShaftHunt();
        for (int n = 1; n < 512; n++) {
            y.back();
        }
        due("the 512th call tells 511 refused", y.told(1), 511);
    }
}
