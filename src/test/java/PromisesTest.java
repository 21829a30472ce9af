/** Each promise of the document by hand: ordinary inputs, the edges that it names, wrong inputs. */
public final class PromisesTest extends Checks {
    public static void main(String[] args) {
        newObject();
        shaft();
        sets();
        pipe();
        drops();
        of();
        about();
        comes();
        times();
        leaves();
        sight();
        forget();
        fits();
        when();
        suspects();
        next();
        alike();
        sensors();
        type();
        clear();
        readsWhatStands();
        readsFaults();
        readsStops();
        back();
        told();
        digest();
        extremes();
        finish();
    }

    private static void newObject() {
        ShaftHunt x = new ShaftHunt();
        for (int what = 0; what <= 7; what++) {
            due("1 told(" + what + ")", x.told(what), 0);
        }
        due("1 suspects", x.suspects(), 0);
        due("1 next", x.next(0), ShaftHunt.NONE);
        due("1 of", x.of(0, 0), ShaftHunt.BAD);
        due("1 about", x.about(0, 0), ShaftHunt.BAD);
        due("1 back", x.back(), ShaftHunt.NO);
        due("1 NONE", ShaftHunt.NONE, -1);
        due("1 BAD", ShaftHunt.BAD, -2);
        due("1 NO", ShaftHunt.NO, -3);
        due("1 FULL", ShaftHunt.FULL, -4);
        ShaftHunt other = plain(3);
        due("1 objects are apart", new ShaftHunt().told(4), 0);
        due("1 objects are apart", other.told(4), 3);
    }

    private static void shaft() {
        ShaftHunt x = new ShaftHunt();
        due("2 kind -1", x.shaft(-1, 1), -2);
        due("2 kind 5", x.shaft(5, 1), -2);
        due("2 p 0", x.shaft(0, 0), -2);
        due("2 p 16", x.shaft(4, 16), -2);
        due("2 leaves no state when refused", x.told(7), 0);
        for (int a = 0; a < 10; a++) {
            due("2 number", x.shaft(a % 5, 15 - a), a);
            due("2 kind kept", x.of(a, 0), a % 5);
            due("2 p kept", x.of(a, 1), 15 - a);
            due("2 states", x.told(7), Math.min(a + 1, 5));
        }
        due("2 BAD ahead of FULL", x.shaft(0, 16), -2);
        due("2 FULL", x.shaft(0, 1), -4);
        due("2 counted BAD", x.told(0), 5);
        due("2 counted FULL", x.told(2), 1);
        due("2 shafts", x.told(4), 10);
    }

    private static void sets() {
        ShaftHunt x = plain(2);
        due("3 kind was", x.sets(1, 0, 4), 0);
        due("3 kind was", x.sets(1, 0, 3), 4);
        due("3 p was", x.sets(1, 1, 15), 1);
        due("3 p was", x.sets(1, 1, 2), 15);
        due("3 the same again", x.sets(1, 1, 2), 2);
        due("3 kind is", x.of(1, 0), 3);
        due("3 p is", x.of(1, 1), 2);
        due("3 other shaft", x.of(0, 0), 0);
        due("3 other shaft", x.of(0, 1), 1);
        due("3 no shaft", x.sets(2, 0, 0), -2);
        due("3 no shaft", x.sets(-1, 0, 0), -2);
        due("3 what", x.sets(0, 2, 1), -2);
        due("3 what", x.sets(0, -1, 1), -2);
        due("3 kind", x.sets(0, 0, 5), -2);
        due("3 kind", x.sets(0, 0, -1), -2);
        due("3 p", x.sets(0, 1, 0), -2);
        due("3 p", x.sets(0, 1, 16), -2);
        due("3 BAD counted", x.told(0), 8);
        due("3 kind 0 is well", x.sets(0, 0, 0), 0);
        due("3 p 1 is well", x.sets(0, 1, 1), 1);
        due("3 leaves a state", x.told(7), 5);
        ShaftHunt y = plain(1);
        y.sets(0, 1, 1);
        due("3 a state even if nothing changes", y.told(7), 2);
    }

    private static void pipe() {
        ShaftHunt x = plain(4);
        due("4 first", x.pipe(0, 1, 0, 9), 0);
        due("4 twice the same", x.pipe(0, 1, 0, 9), 1);
        due("4 low alike high", x.pipe(1, 2, 9, 9), 2);
        due("4 back to the first", x.pipe(2, 0, 0, 0), -3);
        due("4 back by one", x.pipe(1, 0, 0, 0), -3);
        due("4 a alike b", x.pipe(1, 1, 0, 0), -2);
        due("4 a", x.pipe(4, 1, 0, 0), -2);
        due("4 a", x.pipe(-1, 1, 0, 0), -2);
        due("4 b", x.pipe(1, 4, 0, 0), -2);
        due("4 b", x.pipe(1, -1, 0, 0), -2);
        due("4 low", x.pipe(0, 1, -1, 0), -2);
        due("4 high", x.pipe(0, 1, 0, 10), -2);
        due("4 low above high", x.pipe(0, 1, 4, 3), -2);
        due("4 BAD ahead of NO", x.pipe(2, 0, 4, 3), -2);
        due("4 counted BAD", x.told(0), 9);
        due("4 counted NO", x.told(1), 2);
        due("4 states", x.told(7), 5);
        due("4 from a later shaft to an earlier one", x.pipe(3, 2, 1, 2), 3);
        for (int i = 4; i < 16; i++) {
            due("4 more", x.pipe(0, 3, i % 5, 5), i);
        }
        due("4 NO ahead of FULL", x.pipe(2, 0, 0, 0), -3);
        due("4 BAD ahead of FULL", x.pipe(2, 2, 0, 0), -2);
        due("4 FULL", x.pipe(0, 1, 0, 0), -4);
        due("4 pipes", x.told(5), 16);
    }

    private static void drops() {
        ShaftHunt x = plain(4);
        due("5 none yet", x.drops(0), -2);
        x.pipe(0, 1, 0, 1);
        x.pipe(1, 2, 2, 3);
        x.pipe(2, 3, 4, 5);
        due("5 beyond", x.drops(3), -2);
        due("5 below 0", x.drops(-1), -2);
        due("5 the middle one", x.drops(1), 2);
        due("5 first stays", x.about(0, 1), 1);
        due("5 last is nearer", x.about(1, 0), 2);
        due("5 last is nearer", x.about(1, 1), 3);
        due("5 last is nearer", x.about(1, 2), 4);
        due("5 last is nearer", x.about(1, 3), 5);
        due("5 none behind", x.about(2, 0), -2);
        due("5 below", x.of(0, 4), 3);
        due("5 no ring any more", x.pipe(2, 0, 0, 0), 2);
        due("5 the last", x.drops(2), 2);
        due("5 the first", x.drops(0), 1);
        due("5 the only one", x.drops(0), 0);
        due("5 states", x.told(7), 5);
        due("5 back", x.back(), 4);
        due("5 the pipe is back", x.about(0, 3), 5);
    }

    private static void of() {
        ShaftHunt x = plain(5);
        x.sets(1, 0, 3);
        x.sets(1, 1, 12);
        x.pipe(0, 1, 0, 0);
        x.pipe(0, 1, 1, 1);
        x.pipe(1, 2, 0, 0);
        x.pipe(4, 1, 0, 0);
        due("6 kind", x.of(1, 0), 3);
        due("6 p", x.of(1, 1), 12);
        due("6 pipes that leave", x.of(0, 2), 2);
        due("6 pipes that leave", x.of(2, 2), 0);
        due("6 pipes that come", x.of(1, 3), 3);
        due("6 pipes that come", x.of(0, 3), 0);
        due("6 below 0", x.of(0, 4), 7);
        due("6 below 1, a weir", x.of(1, 4), 6);
        due("6 below 3, alone", x.of(3, 4), 8);
        due("6 below 4", x.of(4, 4), 22);
        due("6 above 2", x.of(2, 5), 23);
        due("6 above 0", x.of(0, 5), 1);
        due("6 above 3, alone", x.of(3, 5), 8);
        due("6 what 6", x.of(0, 6), -2);
        due("6 what -1", x.of(0, -1), -2);
        due("6 a 5", x.of(5, 0), -2);
        due("6 a -1", x.of(-1, 0), -2);
        due("6 BAD counted", x.told(0), 4);
        ShaftHunt y = chain(10);
        due("6 below in a chain", y.of(0, 4), 1023);
        due("6 above in a chain", y.of(9, 5), 1023);
        ShaftHunt z = plain(10);
        for (int a = 0; a + 1 < 10; a++) {
            z.pipe(a + 1, a, 0, 0);
        }
        due("6 below in a chain upwards", z.of(9, 4), 1023);
        due("6 above in a chain upwards", z.of(0, 5), 1023);
    }

    private static void about() {
        ShaftHunt x = plain(3);
        x.pipe(2, 1, 3, 8);
        due("7 from", x.about(0, 0), 2);
        due("7 to", x.about(0, 1), 1);
        due("7 low", x.about(0, 2), 3);
        due("7 high", x.about(0, 3), 8);
        due("7 what 4", x.about(0, 4), -2);
        due("7 what -1", x.about(0, -1), -2);
        due("7 i 1", x.about(1, 0), -2);
        due("7 i -1", x.about(-1, 0), -2);
        due("7 BAD counted", x.told(0), 4);
    }

    private static void comes() {
        ShaftHunt x = plain(4);
        x.pipe(0, 1, 2, 4);
        x.pipe(1, 2, 0, 1);
        due("8 itself", x.comes(0, 7, 0), bits(7));
        due("8 one pipe", x.comes(0, 7, 1), bits(9, 10, 11));
        due("8 two pipes", x.comes(0, 7, 2), bits(9, 10, 11, 12));
        due("8 not upwards", x.comes(1, 7, 0), 0);
        due("8 not elsewhere", x.comes(0, 7, 3), 0);
        x.pipe(0, 2, 9, 9);
        due("8 two ways", x.comes(0, 7, 2), bits(9, 10, 11, 12, 16));
        x.sets(1, 0, 1);
        x.sets(1, 1, 10);
        due("8 through a pump", x.comes(0, 7, 2), bits(10, 11, 16, 20, 21));
        due("8 the pump itself", x.comes(0, 7, 1), bits(9, 10, 11));
        due("8 from the pump", x.comes(1, 11, 2), bits(20, 21));
        x.sets(1, 0, 4);
        due("8 through a slow pump", x.comes(0, 7, 2), bits(12, 13, 16, 22, 23));
        x.sets(1, 0, 2);
        due("8 through a tank", x.comes(0, 7, 2), bits(16, 19, 20, 21, 22));
        x.sets(1, 0, 3);
        due("8 through a weir", x.comes(0, 7, 2), bits(10, 11, 12, 16));
        due("8 below the weir", x.comes(0, 0, 2), bits(9));
        due("8 m 30 is well", x.comes(0, 30, 0), bits(30));
        due("8 m 0 is well", x.comes(0, 0, 0), bits(0));
        due("8 m 31", x.comes(0, 31, 0), -2);
        due("8 m -1", x.comes(0, -1, 0), -2);
        due("8 a", x.comes(4, 0, 0), -2);
        due("8 a", x.comes(-1, 0, 0), -2);
        due("8 b", x.comes(0, 0, 4), -2);
        due("8 b", x.comes(0, 0, -1), -2);
        due("8 BAD counted", x.told(0), 6);
        comesLate();
    }

    private static void comesLate() {
        ShaftHunt x = plain(5);
        for (int a = 0; a < 4; a++) {
            x.pipe(a, a + 1, 0, 9);
        }
        due("8 the last minutes", x.comes(0, 30, 4), span(30, 62));
        x.drops(0);
        x.pipe(0, 1, 8, 8);
        due("8 62 is the last", x.comes(0, 27, 4), span(35, 62));
        due("8 63 is lost", x.comes(0, 28, 4), span(36, 62));
        x.sets(2, 0, 2);
        x.sets(2, 1, 15);
        due("8 later is lost in a tank, too", x.comes(0, 30, 4), span(53, 62));
        ShaftHunt y = plain(4);
        y.pipe(2, 3, 0, 0);
        y.pipe(1, 2, 0, 0);
        y.pipe(0, 1, 0, 0);
        due("8 pipes told from below upwards", y.comes(0, 3, 3), bits(3));
    }

    private static void times() {
        ShaftHunt x = plain(3);
        x.pipe(0, 1, 2, 4);
        x.pipe(0, 1, 9, 9);
        due("9 first", x.times(0, 5, 1, 0), 7);
        due("9 last", x.times(0, 5, 1, 1), 14);
        due("9 how many", x.times(0, 5, 1, 2), 4);
        due("9 no first", x.times(0, 5, 2, 0), -1);
        due("9 no last", x.times(0, 5, 2, 1), -1);
        due("9 none", x.times(0, 5, 2, 2), 0);
        due("9 minute 0", x.times(0, 0, 0, 0), 0);
        due("9 minute 0", x.times(0, 0, 0, 1), 0);
        due("9 what 3", x.times(0, 5, 1, 3), -2);
        due("9 what -1", x.times(0, 5, 1, -1), -2);
        due("9 what 3, none", x.times(0, 5, 2, 3), -2);
        due("9 m 31", x.times(0, 31, 1, 0), -2);
        due("9 m -1", x.times(0, -1, 1, 0), -2);
        due("9 a 3", x.times(3, 5, 1, 0), -2);
        due("9 b 3", x.times(0, 5, 3, 0), -2);
        due("9 BAD counted, NONE not", x.told(0), 7);
        ShaftHunt y = chain(10);
        for (int a = 0; a < 10; a++) {
            y.sets(a, 0, 2);
            y.sets(a, 1, 4);
        }
        due("9 last of a long way", y.times(26, 0, 0, 0), -2);
        due("9 last of a long way", y.times(0, 26, 9, 1), 62);
        due("9 later is lost", y.times(0, 27, 9, 1), -1);
    }

    private static void leaves() {
        ShaftHunt x = new ShaftHunt();
        x.shaft(0, 7);
        x.shaft(1, 7);
        x.shaft(2, 7);
        x.shaft(3, 7);
        x.shaft(4, 7);
        due("10 plain", x.leaves(0, 0), 0);
        due("10 plain", x.leaves(0, 62), 62);
        due("10 pump at 0", x.leaves(1, 0), 0);
        due("10 pump", x.leaves(1, 1), 7);
        due("10 pump just then", x.leaves(1, 7), 7);
        due("10 pump", x.leaves(1, 8), 14);
        due("10 pump's last", x.leaves(1, 56), 56);
        due("10 pump would be 63", x.leaves(1, 57), -1);
        x.sets(1, 1, 2);
        due("10 pump of 2 at the last minute", x.leaves(1, 61), 62);
        x.sets(1, 1, 1);
        due("10 pump of 1 at the last minute", x.leaves(1, 62), 62);
        x.sets(1, 1, 15);
        due("10 pump of 15", x.leaves(1, 46), 60);
        due("10 pump of 15, later", x.leaves(1, 61), -1);
        due("10 tank", x.leaves(2, 0), 7);
        due("10 tank", x.leaves(2, 55), 62);
        due("10 tank would be 63", x.leaves(2, 56), -1);
        due("10 weir below", x.leaves(3, 6), -1);
        due("10 weir at", x.leaves(3, 7), 7);
        due("10 weir above", x.leaves(3, 62), 62);
        due("10 slow pump at 0", x.leaves(4, 0), 1);
        due("10 slow pump", x.leaves(4, 1), 8);
        due("10 slow pump", x.leaves(4, 56), 57);
        due("10 slow pump later", x.leaves(4, 57), -1);
        x.sets(4, 1, 9);
        due("10 slow pump of 9", x.leaves(4, 9), 10);
        x.sets(4, 1, 10);
        due("10 slow pump of 10", x.leaves(4, 9), 12);
        x.sets(4, 1, 15);
        due("10 slow pump of 15", x.leaves(4, 16), 32);
        due("10 slow pump of 15", x.leaves(4, 60), 62);
        x.sets(4, 1, 1);
        due("10 slow pump of 1", x.leaves(4, 61), 62);
        due("10 slow pump of 1, later", x.leaves(4, 62), -1);
        x.sets(4, 1, 11);
        due("10 slow pump of 11", x.leaves(4, 45), 57);
        due("10 m 63", x.leaves(0, 63), -2);
        due("10 m -1", x.leaves(0, -1), -2);
        due("10 a 5", x.leaves(5, 0), -2);
        due("10 a -1", x.leaves(-1, 0), -2);
        due("10 BAD counted, NONE not", x.told(0), 4);
    }

    private static void sight() {
        ShaftHunt x = plain(2);
        due("11 sort 2", x.sight(2, 0, 0), -2);
        due("11 sort -1", x.sight(-1, 0, 0), -2);
        due("11 a 2", x.sight(0, 2, 0), -2);
        due("11 a -1", x.sight(0, -1, 0), -2);
        due("11 m 63", x.sight(0, 0, 63), -2);
        due("11 m -1", x.sight(0, 0, -1), -2);
        due("11 states", x.told(7), 2);
        for (int n = 1; n <= 12; n++) {
            due("11 how many", x.sight(n % 2, 1, n == 12 ? 62 : 0), n);
        }
        due("11 BAD ahead of FULL", x.sight(0, 0, 63), -2);
        due("11 FULL", x.sight(0, 0, 0), -4);
        due("11 counted BAD", x.told(0), 7);
        due("11 counted FULL", x.told(2), 1);
        due("11 sights", x.told(6), 12);
        due("11 states", x.told(7), 5);
    }

    private static void forget() {
        ShaftHunt x = plain(1);
        due("12 none", x.forget(), 0);
        due("12 a state even so", x.told(7), 2);
        x.sight(1, 0, 3);
        x.sight(1, 0, 4);
        due("12 nobody fits", x.suspects(), 0);
        due("12 two", x.forget(), 2);
        due("12 none are left", x.told(6), 0);
        due("12 all fit", x.suspects(), 1);
        due("12 a new one is the first", x.sight(1, 0, 3), 1);
        due("12 only it counts", x.when(0), 8);
    }

    private static void fits() {
        ShaftHunt x = plain(3);
        x.pipe(0, 1, 2, 5);
        due("13 nothing was seen", x.fits(2, 30), 1);
        x.sight(1, 1, 10);
        due("13 seen too early", x.fits(0, 4), 0);
        due("13 seen at last", x.fits(0, 5), 1);
        due("13 seen at first", x.fits(0, 8), 1);
        due("13 seen too late", x.fits(0, 9), 0);
        due("13 seen where it got in", x.fits(1, 10), 1);
        due("13 another minute", x.fits(1, 9), 0);
        due("13 elsewhere", x.fits(2, 10), 0);
        x.sight(0, 1, 10);
        due("13 clean, all no later", x.fits(0, 5), 0);
        due("13 clean, one is later", x.fits(0, 6), 1);
        due("13 clean, at just that minute", x.fits(1, 10), 0);
        x.forget();
        x.sight(0, 1, 10);
        due("13 clean, come to at none", x.fits(2, 0), 1);
        due("13 clean, earlier", x.fits(1, 3), 0);
        due("13 clean, later", x.fits(1, 11), 1);
        x.sight(0, 2, 62);
        due("13 clean till the last", x.fits(2, 30), 0);
        due("13 clean till the last, none", x.fits(0, 30), 1);
        due("13 m 31", x.fits(0, 31), -2);
        due("13 m -1", x.fits(0, -1), -2);
        due("13 a 3", x.fits(3, 0), -2);
        due("13 a -1", x.fits(-1, 0), -2);
        due("13 BAD counted", x.told(0), 4);
        ShaftHunt y = plain(1);
        y.sight(0, 0, 0);
        due("13 clean till 0", y.fits(0, 0), 0);
        due("13 clean till 0", y.fits(0, 1), 1);
    }

    private static void when() {
        ShaftHunt x = plain(2);
        x.pipe(0, 1, 2, 4);
        due("14 all", x.when(0), Integer.MAX_VALUE);
        x.sight(1, 1, 10);
        due("14 three", x.when(0), bits(6, 7, 8));
        due("14 one", x.when(1), bits(10));
        x.sight(0, 1, 10);
        due("14 not the earliest", x.when(0), bits(7, 8));
        due("14 none", x.when(1), 0);
        x.back();
        due("14 behind a step back", x.when(0), bits(6, 7, 8));
        x.sets(0, 0, 2);
        x.sets(0, 1, 5);
        due("14 behind another kind", x.when(0), bits(1, 2, 3));
        x.drops(0);
        due("14 behind a pipe's end", x.when(0), 0);
        due("14 through a text", reads(x, "p0 1 0 0;"), 1);
        due("14 behind a text", x.when(0), bits(5));
        due("14 a 2", x.when(2), -2);
        due("14 a -1", x.when(-1), -2);
        due("14 BAD counted", x.told(0), 2);
        ShaftHunt y = plain(1);
        y.sight(1, 0, 30);
        due("14 the last start", y.when(0), 1 << 30);
        y.forget();
        y.sight(1, 0, 31);
        due("14 no start so late", y.when(0), 0);
    }

    private static void suspects() {
        ShaftHunt x = chain(4);
        due("15 all", x.suspects(), 15);
        x.sight(1, 2, 40);
        due("15 none so late", x.suspects(), 0);
        x.forget();
        x.sight(1, 2, 30);
        due("15 above", x.suspects(), 7);
        x.sight(0, 0, 40);
        due("15 but not the first", x.suspects(), 6);
        due("15 asks change nothing", x.told(7), 5);
        due("15 a new shaft", x.shaft(0, 1), 4);
        due("15 is none", x.suspects(), 6);
        x.pipe(4, 2, 0, 9);
        due("15 is one", x.suspects(), 22);
    }

    private static void next() {
        ShaftHunt x = new ShaftHunt();
        due("16 no shafts", x.next(0), -1);
        due("16 no shafts", x.next(1), -1);
        due("16 what 2", x.next(2), -2);
        due("16 what -1", x.next(-1), -2);
        due("16 BAD counted, NONE not", x.told(0), 2);
        ShaftHunt y = chain(6);
        due("16 the middle", y.next(0), 2);
        due("16 half", y.next(1), 3);
        y.sight(0, 0, 62);
        due("16 among five the least of two", y.next(0), 2);
        due("16 three of five", y.next(1), 3);
        y.sight(1, 5, 63 - 1);
        due("16 nobody", y.next(0), 0);
        due("16 nobody", y.next(1), 0);
        ShaftHunt z = plain(4);
        due("16 apart, the least", z.next(0), 0);
        due("16 apart", z.next(1), 3);
        z.pipe(2, 3, 0, 0);
        due("16 the shared one", z.next(0), 3);
        due("16 two and two", z.next(1), 2);
        ShaftHunt u = plain(5);
        u.pipe(0, 4, 0, 0);
        u.pipe(1, 4, 0, 0);
        u.pipe(1, 3, 0, 0);
        u.sight(0, 4, 62);
        u.sight(0, 2, 62);
        due("16 one suspect", u.suspects(), 8);
        due("16 one suspect, the least", u.next(0), 0);
        due("16 one suspect", u.next(1), 1);
    }

    private static void alike() {
        ShaftHunt x = new ShaftHunt();
        due("17 no shafts", x.alike(0), 0);
        due("17 a bit without a shaft", x.alike(1), -2);
        ShaftHunt y = chain(4);
        due("17 nobody watches", y.alike(0), 6);
        due("17 all watch", y.alike(15), 0);
        due("17 the last is below all", y.alike(8), 6);
        due("17 the first", y.alike(1), 3);
        due("17 the middle", y.alike(2), 2);
        due("17 three", y.alike(7), 0);
        due("17 bit 4", y.alike(16), -2);
        due("17 below 0", y.alike(-1), -2);
        due("17 the least int", y.alike(Integer.MIN_VALUE), -2);
        due("17 BAD counted", y.told(0), 3);
        due("17 nobody watches ten", plain(10).alike(0), 45);
        due("17 the largest set", plain(10).alike(1023), 0);
        due("17 beyond the largest", plain(10).alike(1024), -2);
    }

    private static void sensors() {
        ShaftHunt x = new ShaftHunt();
        due("18 no shafts", x.sensors(0), 0);
        due("18 no shafts", x.sensors(1), 0);
        due("18 what 2", x.sensors(2), -2);
        due("18 what -1", x.sensors(-1), -2);
        due("18 BAD counted", x.told(0), 2);
        ShaftHunt y = plain(1);
        due("18 one shaft", y.sensors(0), 0);
        y.shaft(0, 1);
        due("18 two apart, the least", y.sensors(0), 1);
        due("18 two apart", y.sensors(1), 1);
        y.pipe(1, 0, 0, 0);
        due("18 the upper one", y.sensors(0), 2);
        due("18 a chain of four", chain(4).sensors(0), 7);
        due("18 a chain of four", chain(4).sensors(1), 3);
        due("18 ten apart", plain(10).sensors(0), 511);
        due("18 ten apart", plain(10).sensors(1), 9);
        // Shafts 2 and 3 are below 0 and 1 in such a way that two watchers do for four shafts.
        ShaftHunt z = plain(4);
        z.pipe(3, 0, 0, 0);
        z.pipe(3, 1, 0, 0);
        due("18 two do for four", z.sensors(0), 3);
        due("18 two do for four", z.sensors(1), 2);
        z.sets(3, 0, 3);
        due("18 kinds aside", z.sensors(0), 3);
    }

    private static void type() {
        ShaftHunt x = new ShaftHunt();
        due("19 -1", x.type(-1), -2);
        due("19 128", x.type(128), -2);
        due("19 0", x.type(0), 1);
        due("19 127", x.type(127), 2);
        for (int n = 3; n <= 120; n++) {
            due("19 how many", x.type(32), n);
        }
        due("19 BAD ahead of FULL", x.type(128), -2);
        due("19 FULL", x.type(32), -4);
        due("19 counted BAD", x.told(0), 3);
        due("19 counted FULL", x.told(2), 1);
        due("19 bytes", x.told(3), 120);
        due("19 no state", x.told(7), 0);
    }

    private static void clear() {
        ShaftHunt x = new ShaftHunt();
        due("20 empty", x.clear(), 0);
        x.type('s');
        x.type(';');
        due("20 two", x.clear(), 2);
        due("20 none are left", x.told(3), 0);
        due("20 empty", x.clear(), 0);
        due("20 no state", x.told(7), 0);
        due("20 from the front", x.type('x'), 1);
    }

    private static void readsWhatStands() {
        ShaftHunt x = new ShaftHunt();
        due("21 all letters", reads(x, "s0 1;s4 15;p0 1 2 9;p0 1 3 3;e1 62;c0 0;x0;"), 7);
        due("21 shafts", x.told(4), 2);
        due("21 kind", x.of(1, 0), 4);
        due("21 p", x.of(1, 1), 15);
        due("21 pipes", x.told(5), 1);
        due("21 low", x.about(0, 2), 3);
        due("21 sights", x.told(6), 2);
        due("21 one state", x.told(7), 1);
        due("21 the text stays", x.told(3), 43);
        due("21 back", x.back(), 0);
        due("21 nothing is left", x.told(4), 0);
        due("21 the text stays", x.reads(), 7);
        due("21 blanks", reads(x, "  s  0   01 ;  p 1  2 00 09   ;  "), 2);
        due("21 leading noughts", x.about(1, 3), 9);
        due("21 three shafts", x.told(4), 3);
        ShaftHunt y = plain(2);
        reads(y, "e0 7;c1 9;");
        due("21 e is seen", y.when(0), bits(7));
        y.forget();
        reads(y, "c1 9;");
        due("21 c is clean", y.when(1), span(10, 30));
        due("21 c is clean elsewhere", y.when(0), Integer.MAX_VALUE);
        ShaftHunt z = plain(2);
        StringBuilder forty = new StringBuilder();
        for (int i = 0; i < 15; i++) {
            z.pipe(0, 1, 0, 0);
        }
        for (int i = 0; i < 7; i++) {
            forty.append("x0;");
        }
        due("21 many", reads(z, forty.toString()), 7);
        due("21 pipes", z.told(5), 8);
        due("21 nothing counts", z.told(0), 0);
    }

    private static void fault(String text, int place) {
        ShaftHunt x = plain(2);
        due("21 fault of '" + text + "'", reads(x, text), -10 - place);
        due("21 nothing is done by '" + text + "'", x.told(4), 2);
        due("21 no pipe by '" + text + "'", x.told(5), 0);
        due("21 no sight by '" + text + "'", x.told(6), 0);
        due("21 no state by '" + text + "'", x.told(7), 2);
        due("21 nothing counts by '" + text + "'", x.told(0) + x.told(1) + x.told(2), 0);
    }

    private static void readsFaults() {
        fault("", 0);
        fault(" ", 1);
        fault("   ", 3);
        fault(";", 0);
        fault("s0 1;;", 5);
        fault("s0 1; ;", 6);
        fault("s0 1", 4);
        fault("s0 1 ", 5);
        fault("s0 1;s", 6);
        fault("s", 1);
        fault("s;", 1);
        fault("s0", 2);
        fault("s0;", 2);
        fault("s0 ;", 3);
        fault("s01;", 3);
        fault("s012;", 3);
        fault("s0 123;", 5);
        fault("s0 1 2;", 5);
        fault("s0 1 2", 5);
        fault("s0 1x;", 4);
        fault("s0,1;", 2);
        fault("s-1 1;", 1);
        fault("S0 1;", 0);
        fault("0 1;", 0);
        fault("ss0 1;", 1);
        fault("x;", 1);
        fault("x 0 1;", 4);
        fault("x0", 2);
        fault("p0 1 2;", 6);
        fault("p0 1 2 3 4;", 9);
        fault("p0 1 2 3", 8);
        fault("e0 1 2;", 5);
        fault("c0;", 2);
        fault("s0\t1;", 2);
        fault("\ns0 1;", 0);
        fault("s0 1;q", 5);
        fault("s9 99;s0 1;s9", 13);
        fault("s0:1;", 2);
        fault("s0/1;", 2);
        fault("s0 1;\0", 5);
    }

    private static void stop(ShaftHunt x, String text, int order) {
        long before = x.digest();
        int bytes = x.told(3);
        int answer = reads(x, text);
        due("21 stopped '" + text + "'", answer, -1000 - order);
        reads(x, "");
        for (int i = 0; i < bytes; i++) {
            x.type(' ');
        }
        due("21 nothing is done by '" + text + "'", x.digest(), before);
    }

    private static void readsStops() {
        ShaftHunt x = plain(3);
        x.pipe(0, 1, 0, 0);
        x.sight(1, 1, 5);
        stop(x, "s5 1;", 0);
        stop(x, "s0 0;", 0);
        stop(x, "s0 1;s0 16;s0 1;", 1);
        stop(x, "p1 0 0 0;", 0);
        stop(x, "p1 1 0 0;", 0);
        stop(x, "p1 3 0 0;", 0);
        stop(x, "p1 2 3 2;", 0);
        stop(x, "p1 2 0 10;", 0);
        stop(x, "p1 2 0 0;p2 0 0 0;", 1);
        stop(x, "e3 0;", 0);
        stop(x, "c0 63;", 0);
        stop(x, "x1;", 0);
        stop(x, "x0;x0;", 1);
        stop(x, "x99;", 0);
        stop(x, "s0 1;s0 1;s0 1;s0 1;s0 1;s0 1;s0 1;s0 1;", 7);
        stop(x, "c0 1;c0 1;c0 1;c0 1;c0 1;c0 1;c0 1;c0 1;c0 1;c0 1;c0 1;c0 1;", 11);
        due("21 what comes to stand may be used", reads(x, "s0 1;p3 0 0 0;x0;p1 0 0 0;"), 4);
        due("21 the last shaft", reads(x, "s0 1;s0 1;s0 1;s0 1;s0 1;s0 1;"), 6);
        due("21 nothing counts", x.told(0) + x.told(1) + x.told(2), 0);
        ShaftHunt y = plain(2);
        y.sight(1, 0, 4);
        due("21 asked ahead of the stop", y.when(0), bits(4));
        reads(y, "e0 9;x0;");
        due("21 asked behind the stop", y.when(0), bits(4));
    }

    private static void back() {
        ShaftHunt x = new ShaftHunt();
        due("22 none", x.back(), -3);
        due("22 NO counted", x.told(1), 1);
        for (int a = 0; a < 7; a++) {
            x.shaft(a % 5, a + 1);
        }
        x.type('s');
        x.of(9, 0);
        for (int left = 4; left >= 0; left--) {
            due("22 left", x.back(), left);
            due("22 shafts", x.told(4), 2 + left);
            due("22 states", x.told(7), left);
        }
        due("22 none is left", x.back(), -3);
        due("22 the text stays", x.told(3), 1);
        due("22 BAD stays", x.told(0), 1);
        due("22 NO stays", x.told(1), 2);
        due("22 what was there at first", x.of(1, 1), 2);
        x.pipe(0, 1, 1, 2);
        x.sight(1, 1, 9);
        x.sets(0, 1, 9);
        x.drops(0);
        x.forget();
        due("22 forget", x.back(), 4);
        due("22 sights", x.told(6), 1);
        due("22 drops", x.back(), 3);
        due("22 pipe", x.about(0, 3), 2);
        due("22 below", x.of(0, 4), 3);
        due("22 sets", x.back(), 2);
        due("22 p", x.of(0, 1), 1);
        due("22 sight", x.back(), 1);
        due("22 when", x.when(1), Integer.MAX_VALUE);
        due("22 pipe", x.back(), 0);
        due("22 no pipe", x.about(0, 0), -2);
        due("22 no ring", x.pipe(1, 0, 0, 0), 0);
        due("22 a new state behind", x.told(7), 1);
    }

    private static void told() {
        ShaftHunt x = plain(2);
        x.pipe(0, 1, 0, 0);
        x.sight(1, 0, 0);
        x.sight(1, 0, 0);
        x.sight(1, 0, 0);
        x.pipe(1, 0, 0, 0);
        x.pipe(1, 0, 0, 0);
        x.type(1);
        x.type(2);
        x.type(3);
        x.type(4);
        x.back();
        x.back();
        due("23 what 8", x.told(8), -2);
        due("23 what -1", x.told(-1), -2);
        x.drops(9);
        due("23 BAD", x.told(0), 3);
        due("23 NO", x.told(1), 2);
        due("23 FULL", x.told(2), 0);
        due("23 bytes", x.told(3), 4);
        due("23 shafts", x.told(4), 2);
        due("23 pipes", x.told(5), 1);
        due("23 sights", x.told(6), 1);
        due("23 states", x.told(7), 3);
    }

    private static void digest() {
        long empty = 2557;
        for (int i = 0; i < 8; i++) {
            empty *= 31;
        }
        empty = (empty * 31 - 1) * 31 - 1;
        empty *= 31;
        due("24 empty", new ShaftHunt().digest(), empty);
        ShaftHunt x = new ShaftHunt();
        x.shaft(1, 4);
        x.shaft(3, 9);
        x.shaft(2, 3);
        x.pipe(0, 1, 1, 3);
        x.pipe(1, 2, 0, 5);
        x.sight(1, 1, 7);
        x.drops(5);
        x.back();
        x.sight(1, 2, 14);
        due("24 as told", x.digest(), byHand(x));
        due("24 changes nothing", x.digest(), byHand(x));
    }

    private static long byHand(ShaftHunt x) {
        long h = 2557;
        for (int what = 0; what < 8; what++) {
            h = 31 * h + x.told(what);
        }
        int shafts = x.told(4);
        for (int a = 0; a < shafts; a++) {
            for (int what = 0; what < 6; what++) {
                h = 31 * h + x.of(a, what);
            }
            h = 31 * h + x.when(a);
        }
        for (int i = 0; i < x.told(5); i++) {
            for (int what = 0; what < 4; what++) {
                h = 31 * h + x.about(i, what);
            }
        }
        for (int b = 0; b < shafts; b++) {
            for (int a = 0; a < shafts; a++) {
                h = 31 * h + x.comes(a, 5, b);
            }
        }
        h = 31 * h + x.next(0);
        h = 31 * h + x.next(1);
        return 31 * h + x.sensors(0);
    }

    /** Every call with the ends of int: refused, and the machine never throws. */
    private static void extremes() {
        int[] ends = {Integer.MIN_VALUE, Integer.MIN_VALUE + 1, -2, Integer.MAX_VALUE - 1, Integer.MAX_VALUE};
        ShaftHunt x = chain(10);
        int refused = 0;
        for (int e : ends) {
            long[] answers = {
                x.shaft(e, 1), x.shaft(0, e), x.sets(e, 0, 0), x.sets(0, e, 1), x.sets(0, 0, e), x.sets(0, 1, e),
                x.pipe(e, 1, 0, 0), x.pipe(0, e, 0, 0), x.pipe(0, 1, e, 0), x.pipe(0, 1, 0, e), x.pipe(0, 1, e, e),
                x.pipe(e, e, 0, 0), x.drops(e), x.of(e, 0), x.of(0, e), x.about(e, 0), x.about(0, e),
                x.comes(e, 0, 0), x.comes(0, e, 0), x.comes(0, 0, e), x.times(e, 0, 0, 0), x.times(0, e, 0, 0),
                x.times(0, 0, e, 0), x.times(0, 0, 0, e), x.leaves(e, 0), x.leaves(0, e), x.sight(e, 0, 0),
                x.sight(0, e, 0), x.sight(0, 0, e), x.fits(e, 0), x.fits(0, e), x.when(e), x.next(e), x.alike(e),
                x.sensors(e), x.type(e), x.told(e)};
            for (int i = 0; i < answers.length; i++) {
                due("end " + e + ", call " + i, answers[i], -2);
            }
            refused += answers.length;
        }
        due("all are counted", x.told(0), refused);
    }
}
