/** What was seen and who watches, at the edges: no sights, no suspects, like ones, all and none of the shafts. */
public final class FitsTest extends Checks {
    private static final int ALL = Integer.MAX_VALUE;

    public static void main(String[] args) {
        noSights();
        seen();
        clean();
        timesOfAShaft();
        suspects();
        below();
        next();
        alike();
        sensors();
        questionsChangeNothing();
        finish();
    }

    private static ShaftHunt sighted(ShaftHunt x, int sort, int a, int m) {
        x.sight(sort, a, m);
        return x;
    }

    private static void noSights() {
        ShaftHunt x = chain(10);
        due("without SIGHTS a START at 0 FITS", x.fits(9, 0), 1);
        due("without SIGHTS a START at 30 FITS", x.fits(0, 30), 1);
        due("without SIGHTS 31 MINUTES", x.when(5), ALL);
        due("without SIGHTS all SHAFTS", x.suspects(), 1023);
        due("none to forget", x.forget(), 0);
        due("that leaves a STATE, too", x.told(7), 5);
    }

    // Each SHAFT SEEN at a MINUTE is COME TO at it.
    private static void seen() {
        due("SEEN at 0", sighted(plain(1), 1, 0, 0).when(0), bits(0));
        due("SEEN at 30", sighted(plain(1), 1, 0, 30).when(0), bits(30));
        due("SEEN at 31, none START so late", sighted(plain(1), 1, 0, 31).when(0), 0);
        due("SEEN at 62, none START so late", sighted(plain(1), 1, 0, 62).when(0), 0);
        ShaftHunt x = plain(2);
        x.pipe(0, 1, 0, 9);
        x.sight(1, 1, 9);
        due("SEEN between LOW and HIGH", x.when(0), span(0, 9));
        x.sight(1, 1, 9);
        due("SEEN twice alike", x.when(0), span(0, 9));
        x.sight(1, 1, 14);
        due("SEEN at both", x.when(0), span(5, 9));
        due("SEEN at both", x.fits(0, 5), 1);
        due("SEEN at one alone, early", x.fits(0, 4), 0);
        due("SEEN at both", x.fits(0, 9), 1);
        due("SEEN at one alone, late", x.fits(0, 10), 0);
        x.sight(1, 0, 7);
        due("SEEN in two SHAFTS", x.when(0), bits(7));
        x.sight(1, 0, 8);
        due("SEEN twice where it got in", x.when(0), 0);
        ShaftHunt late = plain(5);
        for (int a = 0; a < 4; a++) {
            late.pipe(a, a + 1, 8, 8);
        }
        late.sight(1, 4, 62);
        due("SEEN at the last MINUTE", late.when(0), bits(30));
        late.drops(3);
        late.pipe(3, 4, 8, 9);
        due("SEEN at the last MINUTE, 63 is lost", late.when(0), bits(29, 30));
    }

    // No SHAFT that was CLEAN till a MINUTE is COME TO at MINUTES all of which are no later than that.
    private static void clean() {
        due("CLEAN till 0", sighted(plain(1), 0, 0, 0).when(0), span(1, 30));
        due("CLEAN till 29", sighted(plain(1), 0, 0, 29).when(0), bits(30));
        due("CLEAN till 30", sighted(plain(1), 0, 0, 30).when(0), 0);
        due("CLEAN till 61", sighted(plain(1), 0, 0, 61).when(0), 0);
        due("CLEAN till 62", sighted(plain(1), 0, 0, 62).when(0), 0);
        due("CLEAN till 62, COME TO at none", sighted(plain(2), 0, 0, 62).when(1), ALL);
        ShaftHunt x = plain(2);
        x.pipe(0, 1, 2, 4);
        x.sight(0, 1, 20);
        due("CLEAN, the last at 20", x.fits(0, 16), 0);
        due("CLEAN, the last at 21", x.fits(0, 17), 1);
        due("CLEAN, all of 17 on", x.when(0), span(17, 30));
        x.sight(0, 1, 20);
        due("CLEAN twice alike", x.when(0), span(17, 30));
        x.sight(0, 1, 19);
        due("CLEAN till an earlier one, too", x.when(0), span(17, 30));
        x.sight(0, 1, 21);
        due("CLEAN till a later one, too", x.when(0), span(18, 30));
        x.sight(1, 1, 21);
        due("SEEN at 21, but CLEAN till then: it came later, too", x.when(0), span(18, 19));
        x.sight(1, 1, 20);
        due("SEEN at 20, too", x.when(0), bits(18));
        ShaftHunt late = plain(5);
        for (int a = 0; a < 4; a++) {
            late.pipe(a, a + 1, 8, 8);
        }
        late.sight(0, 4, 61);
        due("CLEAN till 61, COME TO at 62", late.fits(0, 30), 1);
        due("CLEAN till 61, COME TO at 61", late.fits(0, 29), 0);
        late.sight(0, 4, 62);
        due("CLEAN till 62, COME TO at 62", late.fits(0, 30), 0);
        late.sets(3, 0, 2);
        due("CLEAN till 62, COME TO at none: 63 is lost", late.fits(0, 30), 1);
        due("CLEAN till 62, COME TO at 62 of a tank", late.fits(0, 29), 0);
    }

    // TIMES of a SHAFT: MINUTES 0 to 30.
    private static void timesOfAShaft() {
        ShaftHunt x = plain(2);
        x.pipe(0, 1, 0, 9);
        x.sight(1, 1, 39);
        due("the last START is 30", x.when(0), bits(30));
        x.sight(1, 1, 38);
        due("the last START is 30", x.when(0), bits(30));
        x.sight(1, 1, 40);
        due("31 is no START", x.when(0), 0);
        ShaftHunt y = plain(2);
        y.pipe(0, 1, 9, 9);
        y.sight(1, 1, 9);
        due("the first START is 0", y.when(0), bits(0));
        y.forget();
        y.sight(1, 1, 8);
        due("there is none ahead of 0", y.when(0), 0);
    }

    // SUSPECTS: SHAFTS that have any.
    private static void suspects() {
        due("no SHAFTS", new ShaftHunt().suspects(), 0);
        due("one TIME, 0", sighted(plain(10), 1, 9, 0).suspects(), 512);
        due("one TIME, 30", sighted(plain(10), 1, 0, 30).suspects(), 1);
        due("no TIME", sighted(plain(10), 1, 0, 31).suspects(), 0);
        due("all", sighted(chain(10), 1, 9, 30).suspects(), 1023);
        due("none is CLEAN till 62", sighted(chain(10), 0, 9, 62).suspects(), 0);
    }

    // SHAFTS that can be got to from it by PIPES, KINDS aside (itself, too).
    private static void below() {
        ShaftHunt x = new ShaftHunt();
        x.shaft(3, 15);
        due("itself is BELOW", x.of(0, 4), 1);
        due("it is BELOW itself", x.of(0, 5), 1);
        for (int a = 1; a < 10; a++) {
            x.shaft(a % 2 == 0 ? 2 : 3, 15);
            x.pipe(a - 1, a, 9, 9);
        }
        due("BELOW, though nothing comes there", x.of(0, 4), 1023);
        due("nothing comes there", x.comes(0, 0, 9), 0);
        due("all are above the last", x.of(9, 5), 1023);
        due("the last has itself alone", x.of(9, 4), 512);
        due("the first is BELOW itself alone", x.of(0, 5), 1);
        due("no PIPE comes to the first", x.of(0, 3), 0);
        due("no PIPE leaves the last", x.of(9, 2), 0);
        x.drops(4);
        due("half of it", x.of(0, 4), 31);
        due("the other half", x.of(9, 5), 992);
    }

    // That by which the more numerous part is least, of like ones the least SHAFT.
    private static void next() {
        due("no SHAFTS", new ShaftHunt().next(0), -1);
        due("no SHAFTS, how many", new ShaftHunt().next(1), -1);
        due("one SHAFT", plain(1).next(0), 0);
        due("one SHAFT, how many", plain(1).next(1), 1);
        due("no SUSPECTS", sighted(plain(10), 1, 0, 62).next(0), 0);
        due("no SUSPECTS, how many", sighted(plain(10), 1, 0, 62).next(1), 0);
        due("one SUSPECT, not the least", sighted(plain(10), 1, 9, 3).next(0), 0);
        due("one SUSPECT, how many", sighted(plain(10), 1, 9, 3).next(1), 1);
        due("ten apart, of like ones the least", plain(10).next(0), 0);
        due("ten apart, nine are not above it", plain(10).next(1), 9);
        due("ten in a row", chain(10).next(0), 4);
        due("ten in a row, five and five", chain(10).next(1), 5);
        due("nine in a row, of like ones the least", chain(9).next(0), 3);
        due("nine in a row, five and four", chain(9).next(1), 5);
        ShaftHunt x = plain(6);
        x.pipe(3, 5, 0, 0);
        x.pipe(4, 5, 0, 0);
        due("the last alone parts best", x.next(0), 5);
        due("three and three", x.next(1), 3);
        x.sight(0, 5, 62);
        due("BELOW none of the SUSPECTS", x.suspects(), 7);
        due("one of three", x.next(0), 0);
        due("two of three are left", x.next(1), 2);
        ShaftHunt above = chain(4);
        above.shaft(0, 1);
        above.pipe(4, 0, 0, 0);
        above.sight(1, 3, 0);
        due("SUSPECTS alone count", above.next(1), 3);
        due("of like ones the least", above.next(0), 0);
        ShaftHunt weir = chain(4);
        weir.sets(1, 0, 3);
        weir.sets(1, 1, 15);
        due("KINDS aside", weir.next(0), 1);
    }

    // How many two unlike SHAFTS a set does not tell apart.
    private static void alike() {
        due("no SHAFTS", new ShaftHunt().alike(0), 0);
        due("one SHAFT", plain(1).alike(0), 0);
        due("one SHAFT, watched", plain(1).alike(1), 0);
        due("two, none watched", plain(2).alike(0), 1);
        due("two, one watched", plain(2).alike(1), 0);
        due("two, the other watched", plain(2).alike(2), 0);
        due("two in a row, the lower watched", chain(2).alike(2), 1);
        due("two in a row, the upper watched", chain(2).alike(1), 0);
        due("ten, none watched", chain(10).alike(0), 45);
        due("ten, the last watched", chain(10).alike(512), 45);
        due("ten, the first watched", chain(10).alike(1), 36);
        due("ten, all but the first", chain(10).alike(1022), 1);
        due("ten, all but the last", chain(10).alike(511), 0);
        due("ten, all watched", chain(10).alike(1023), 0);
    }

    // The set of the fewest SHAFTS that tells all apart, of like ones the least as bits.
    private static void sensors() {
        due("no SHAFTS", new ShaftHunt().sensors(0), 0);
        due("no SHAFTS, how many", new ShaftHunt().sensors(1), 0);
        due("one SHAFT", plain(1).sensors(0), 0);
        due("one SHAFT, how many", plain(1).sensors(1), 0);
        due("two, of like ones the least", plain(2).sensors(0), 1);
        due("two, how many", plain(2).sensors(1), 1);
        due("two in a row, the upper", chain(2).sensors(0), 1);
        due("ten apart, all but the last", plain(10).sensors(0), 511);
        due("ten apart, how many", plain(10).sensors(1), 9);
        due("ten in a row", chain(10).sensors(0), 511);
        ShaftHunt up = plain(3);
        up.pipe(2, 1, 0, 0);
        up.pipe(1, 0, 0, 0);
        due("three in a row upwards", up.sensors(0), 6);
        due("three in a row upwards, how many", up.sensors(1), 2);
        ShaftHunt few = plain(8);
        int[][] pipes = {{3, 0}, {3, 1}, {4, 0}, {4, 2}, {5, 1}, {5, 2}, {6, 0}, {6, 1}, {6, 2}};
        for (int[] pipe : pipes) {
            few.pipe(pipe[0], pipe[1], 0, 0);
        }
        due("three tell eight apart", few.sensors(0), 7);
        due("three tell eight apart, how many", few.sensors(1), 3);
        few.shaft(0, 1);
        due("nine need a fourth, of like ones the least", few.sensors(1), 4);
        due("nine, as bits", few.sensors(0), 7 | 128);
        ShaftHunt fewer = plain(4);
        fewer.pipe(1, 2, 0, 0);
        fewer.pipe(1, 3, 0, 0);
        due("two of higher bits ahead of three of lower", fewer.sensors(0), 12);
        due("two of higher bits, how many", fewer.sensors(1), 2);
    }

    private static void questionsChangeNothing() {
        changesNothing("of", Checks::crammed, x -> x.of(9, 4), 585);
        changesNothing("about", Checks::crammed, x -> x.about(15, 3), 4);
        changesNothing("comes", Checks::crammed, x -> x.comes(9, 0, 9), 1);
        changesNothing("times", Checks::crammed, x -> x.times(1, 30, 0, 0), -1);
        changesNothing("leaves", Checks::crammed, x -> x.leaves(9, 61), -1);
        changesNothing("fits", Checks::crammed, x -> x.fits(0, 4), 1);
        changesNothing("when", Checks::crammed, x -> x.when(0), span(4, 8));
        changesNothing("suspects", Checks::crammed, x -> x.suspects(), 9);
        changesNothing("next", Checks::crammed, x -> x.next(1), 1);
        changesNothing("alike", Checks::crammed, x -> x.alike(0), 45);
        changesNothing("sensors", Checks::crammed, x -> x.sensors(1), 7);
        changesNothing("told", Checks::crammed, x -> x.told(7), 5);
    }
}
